/** The edges that promises 13 to 15, HISTORY and ERRORS name, each sentence by itself. */
public final class EdgeHistoryTest {
  public static void main(String[] args) {
    promise13EmptyHistory();
    promise13OneToFourStates();
    promise13FifthStateDropsTheOldest();
    promise13UndoRemoves();
    promise13UndoIsNoAct();
    promise13RoomAgainBehindUndo();
    promise13EachActRecordsOne();
    promise13AnswersOfZeroRecord();
    promise13NoActRecords();
    promise13RefusedRecordsNothing();
    promise13RefusedDropsNothing();
    promise13StatesAreNotTheSameObject();
    promise13StateIsNotTheText();
    promise13StateIsNotTheSnapshot();
    promise13UndoBringsBackSettings();
    promise13UndoOfAWholeRun();
    promise14EmptyAndFull();
    promise14InPlaceOfTheOneThatWas();
    promise14KeepIsNoAct();
    promise14LaterActsLeaveIt();
    promise15NoSnapshot();
    promise15PartsThen();
    promise15SnapshotStays();
    promise15RestoreIsAnAct();
    promise15FullHistory();
    promise15SnapshotIsNotTheText();
    promise15OtherNumberOfHeads();
    promise15EverythingButTheText();
    errorsChangeNothing();
    constants();
    Check.finish();
  }

  // ---- promise 13: undo

  /** "NONE if the history is empty": at first, and when all states were taken. */
  private static void promise13EmptyHistory() {
    Told.dueRefused("undo() at first", Told::fresh, LeakCarousel::undo, LeakCarousel.NONE);
    Told.Made undone = Told.behindUndos(Told::busy, 4);
    Told.dueRefused("undo() of a fifth", undone, LeakCarousel::undo, LeakCarousel.NONE);
    LeakCarousel x = new LeakCarousel();
    x.add(false, 1, 1);
    x.undo();
    for (int i = 0; i < 3; i++) {
      Check.due("undo() of none", x.undo(), LeakCarousel.NONE);
    }
    Check.due("count(15)", x.count(15), 0);
  }

  /** "A history of at most 4 states is kept", "Returns the number of states that are left" */
  private static void promise13OneToFourStates() {
    for (int states = 1; states <= 4; states++) {
      LeakCarousel x = Told.withParts(states);
      Check.due("count(15)", x.count(15), states);
      for (int left = states - 1; left >= 0; left--) {
        Check.due("undo()", x.undo(), left);
        Check.due("count(15)", x.count(15), left);
        Check.due("count(2)", x.count(2), left);
      }
      Check.due("undo()", x.undo(), LeakCarousel.NONE);
      Check.due("count(2)", x.count(2), 0);
    }
  }

  /** "when one more is recorded, the oldest one is dropped" */
  private static void promise13FifthStateDropsTheOldest() {
    for (int acts = 5; acts <= 12; acts++) {
      LeakCarousel x = Told.withParts(acts);
      Check.due("count(15)", x.count(15), 4);
      for (int left = 3; left >= 0; left--) {
        Check.due("undo()", x.undo(), left);
        Check.due("count(2)", x.count(2), acts - 4 + left);
      }
      Check.due("undo()", x.undo(), LeakCarousel.NONE);
      Check.due("count(2)", x.count(2), acts - 4);
    }
  }

  /** "undo() removes and restores the latest one": it is not there a second time. */
  private static void promise13UndoRemoves() {
    LeakCarousel x = new LeakCarousel();
    x.setInterval(1);
    x.setInterval(2);
    x.undo();
    Check.due("count(9)", x.count(9), 1);
    x.setInterval(3);
    Check.due("count(15)", x.count(15), 2);
    x.undo();
    Check.due("count(9)", x.count(9), 1);
    x.undo();
    Check.due("count(9)", x.count(9), 20);
  }

  private static void promise13UndoIsNoAct() {
    LeakCarousel x = Told.withParts(3);
    x.undo();
    x.undo();
    Check.due("count(2): undo() undoes no undo()", x.count(2), 1);
    Check.due("count(15)", x.count(15), 1);
  }

  private static void promise13RoomAgainBehindUndo() {
    LeakCarousel x = Told.withParts(6);
    x.undo();
    x.undo();
    Check.due("count(15)", x.count(15), 2);
    x.setInterval(1);
    x.setInterval(2);
    Check.due("count(15)", x.count(15), 4);
    Check.due("undo()", x.undo(), 3);
    Check.due("undo()", x.undo(), 2);
    Check.due("undo()", x.undo(), 1);
    Check.due("undo()", x.undo(), 0);
    Check.due("the third part is the oldest that is kept", x.count(2), 2);
    Check.due("undo()", x.undo(), LeakCarousel.NONE);
  }

  /** "Each call of a method that is described as an act ... records the state that was before it." */
  private static void promise13EachActRecordsOne() {
    Told.dueAct("build(8)", x -> x.build(8), 0, 5);
    Told.dueAct("setPressure", x -> Runs.setPressure(x, 1, 5.0), 1, 1);
    Told.dueAct("setInterval(5)", x -> x.setInterval(5), 20, 7);
    Told.dueAct("equip(1, 1, 1)", x -> x.equip(1, 1, 1), 0, 0);
    Told.dueAct("calibrate(2, 1)", x -> x.calibrate(2, 1), 0, 0);
    Told.dueAct("add(true, 1, 1)", x -> x.add(true, 1, 1), 0, 5);
    Told.dueAct("run(39)", x -> x.run(39), 0, 4);
    Told.Made parts = Told.written(Told::busy, "v1/1;v1/1;v1/1");
    Told.dueAct("readParts()", parts, LeakCarousel::readParts, 3);
    Told.dueAct("step", Told.written(Told::busy, "step"), LeakCarousel::perform, 1);
    Told.dueAct("turn", Told.written(Told::busy, "turn"), LeakCarousel::perform, 2);
    Told.dueAct("stop", Told.written(Told::busy, "stop"), LeakCarousel::perform, 1);
    Told.dueAct("clear", Told.written(Told::busy, "clear"), LeakCarousel::perform, 2);
    Told.dueAct("restore()", Told::busy, LeakCarousel::restore, 5);
  }

  /** An answer of 0 is no error: the act is recorded. */
  private static void promise13AnswersOfZeroRecord() {
    LeakCarousel x = new LeakCarousel();
    x.keep();
    Check.due("build(4)", x.build(4), 0);
    Check.due("count(15)", x.count(15), 1);
    Check.due("equip(0, 1, 0)", x.equip(0, 1, 0), 0);
    Check.due("count(15)", x.count(15), 2);
    Check.due("calibrate(0, 1)", x.calibrate(0, 1), 0);
    Check.due("count(15)", x.count(15), 3);
    Check.due("add(false, 0, 1)", x.add(false, 0, 1), 0);
    Check.due("count(15)", x.count(15), 4);
    x.undo();
    x.undo();
    Check.due("run(1)", x.run(1), 0);
    Check.due("count(15)", x.count(15), 3);
    Check.due("restore()", x.restore(), 0);
    Check.due("count(15)", x.count(15), 4);
    x.undo();
    Check.due("turn", Runs.perform(x, "turn"), 0);
    Check.due("count(15)", x.count(15), 4);
  }

  /** type, clearText, keep, undo and all that is told are not described as acts. */
  private static void promise13NoActRecords() {
    LeakCarousel x = Told.withParts(2);
    x.type('v');
    x.clearText();
    x.keep();
    x.head(0, 0);
    x.gauge(0, 0);
    x.display(0);
    x.part(0, 0);
    x.fits(0, 0);
    x.value(0);
    x.foretold(0, 0);
    x.pressureBits(0);
    x.trace(0, 0);
    x.count(15);
    Check.due("count(15)", x.count(15), 2);
    Check.due("undo()", x.undo(), 1);
    Check.due("count(2)", x.count(2), 1);
  }

  private static void refuse(LeakCarousel x) {
    Check.due("build(9)", x.build(9), LeakCarousel.BAD_VALUE);
    Check.due("setPressure(3, 0)", x.setPressure(3, 0L), LeakCarousel.BAD_VALUE);
    Check.due("setPressure as it is", x.setPressure(0, x.pressureBits(0)), LeakCarousel.NONE);
    Check.due("setInterval(100)", x.setInterval(100), LeakCarousel.BAD_VALUE);
    Check.due("setInterval as it is", x.setInterval(x.count(9)), LeakCarousel.NONE);
    Check.due("equip(8, 0, 0)", x.equip(8, 0, 0), LeakCarousel.UNKNOWN);
    Check.due("equip(0, 1001, 0)", x.equip(0, 1001, 0), LeakCarousel.BAD_VALUE);
    Check.due("equip as it is", x.equip(0, x.head(0, 0), x.head(0, 1)), LeakCarousel.NONE);
    Check.due("calibrate(8, 1)", x.calibrate(8, 1), LeakCarousel.UNKNOWN);
    Check.due("calibrate(0, 0)", x.calibrate(0, 0), LeakCarousel.BAD_VALUE);
    Check.due("add(true, 0, 0)", x.add(true, 0, 0), LeakCarousel.BAD_VALUE);
    Check.due("run(41)", x.run(41), LeakCarousel.BAD_VALUE);
    Check.due("readParts()", Runs.read(x, "v1/1;"), -105);
    Check.due("perform()", Runs.perform(x, "stops"), LeakCarousel.BAD_VALUE);
  }

  /** "and returns no error and not NONE" */
  private static void promise13RefusedRecordsNothing() {
    LeakCarousel x = new LeakCarousel();
    refuse(x);
    Check.due("stop", Runs.perform(x, "stop"), LeakCarousel.NONE);
    Check.due("clear", Runs.perform(x, "clear"), LeakCarousel.NONE);
    Check.due("restore()", x.restore(), LeakCarousel.NONE);
    Check.due("count(15)", x.count(15), 0);
    Check.due("undo()", x.undo(), LeakCarousel.NONE);
  }

  private static void promise13RefusedDropsNothing() {
    LeakCarousel x = Told.full();
    refuse(x);
    Check.due("add of a 61st", x.add(true, 0, 1), LeakCarousel.FULL);
    Check.due("readParts()", Runs.read(x, "v1/1"), LeakCarousel.FULL);
    x.type('x');
    x.keep();
    Check.due("count(15)", x.count(15), 4);
    for (int left = 3; left >= 0; left--) {
      Check.due("undo()", x.undo(), left);
      Check.due("count(2)", x.count(2), 56 + left);
    }
    LeakCarousel y = Told.busy();
    Check.due("calibrate(0, 1)", y.calibrate(0, 1), LeakCarousel.NOT_POSSIBLE);
    Check.due("undo()", y.undo(), 3);
    Check.due("count(1)", y.count(1), 0);
  }

  /** What is recorded stays as it was, whatever later acts change. */
  private static void promise13StatesAreNotTheSameObject() {
    Told.Made run = Told.behind(Told::busy, x -> x.run(40));
    Told.Made back = Told.behindUndos(run, 1);
    Check.dueWords("undo() of run(40)", Told.state(back), Told.state(Told::busy));
    Told.Made twice = Told.behind(back, x -> x.run(40));
    Check.dueWords("run(40) again", Told.state(twice), Told.state(run));
    Told.Made twiceBack = Told.behindUndos(twice, 1);
    Check.dueWords("undo() again", Told.state(twiceBack), Told.state(Told::busy));
  }

  /** "A state is everything but the text, ..." */
  private static void promise13StateIsNotTheText() {
    LeakCarousel x = new LeakCarousel();
    Runs.write(x, "v1/1");
    x.readParts();
    x.clearText();
    x.undo();
    Check.due("count(16) of a text that was cleared", x.count(16), 0);
    x.add(false, 1, 1);
    Runs.write(x, "turn");
    x.undo();
    Check.due("count(16)", x.count(16), 4);
    Check.due("perform()", x.perform(), 0);
    Check.due("count(1)", x.count(1), 4);
  }

  /** "... the history and the snapshot." */
  private static void promise13StateIsNotTheSnapshot() {
    LeakCarousel x = Told.withParts(2);
    x.keep();
    x.undo();
    x.undo();
    Check.due("undo leaves the snapshot", x.restore(), 2);
    x.undo();
    Check.due("count(2)", x.count(2), 0);
    x.keep();
    x.add(false, 1, 1);
    x.undo();
    Check.due("the latest snapshot", x.restore(), 0);
  }

  private static void promise13UndoBringsBackSettings() {
    LeakCarousel x = new LeakCarousel();
    Runs.setPressure(x, 0, 1.0);
    Runs.setPressure(x, 1, 0.0);
    Runs.setPressure(x, 2, 1000000.0);
    x.setInterval(99);
    x.undo();
    Check.due("count(9)", x.count(9), 20);
    x.undo();
    Check.due("pressureBits(2)", x.pressureBits(2), Double.doubleToRawLongBits(30.0));
    x.undo();
    Check.due("pressureBits(1)", x.pressureBits(1), Double.doubleToRawLongBits(20.0));
    x.undo();
    Check.due("pressureBits(0)", x.pressureBits(0), Double.doubleToRawLongBits(500.0));
    x.add(false, 0, 1);
    x.run(1);
    Check.dueNumber("filled behind undo", x.gauge(0, 2), 500.0);
  }

  private static void promise13UndoOfAWholeRun() {
    LeakCarousel x = Told.withParts(60);
    x.run(40);
    x.undo();
    Check.due("count(1)", x.count(1), 0);
    Check.due("count(3)", x.count(3), 60);
    Check.due("count(7)", x.count(7), 0);
    Check.due("head(0, 8)", x.head(0, 8), 0);
    Check.due("part(59, 8)", x.part(59, 8), 59);
  }

  // ---- promise 14: keep, "Returns the number of parts"

  private static void promise14EmptyAndFull() {
    LeakCarousel x = new LeakCarousel();
    Check.due("keep() of none", x.keep(), 0);
    Check.due("restore() of none", x.restore(), 0);
    x = Told.full();
    Check.due("keep() of sixty", x.keep(), 60);
    x.build(2);
    Check.due("keep() behind build", x.keep(), 0);
    x.add(false, 1, 1);
    Check.due("keep() of one", x.keep(), 1);
  }

  /** "in place of the one that was" */
  private static void promise14InPlaceOfTheOneThatWas() {
    Told.Made kept = Told.behind(Told::busy, x -> {
      x.build(8);
      return x.keep();
    });
    Told.Made restored = Told.behind(kept, x -> {
      x.add(false, 1, 1);
      x.run(5);
      return x.restore();
    });
    Check.dueWords("the later snapshot", Told.state(restored), Told.state(kept));
    Check.due("count(0)", restored.make().count(0), 8);
    LeakCarousel x = Told.withParts(3);
    x.keep();
    x.undo();
    x.keep();
    x.undo();
    x.keep();
    x.build(2);
    Check.due("the third one", x.restore(), 1);
  }

  private static void promise14KeepIsNoAct() {
    LeakCarousel x = Told.withParts(2);
    x.keep();
    Check.due("count(15)", x.count(15), 2);
    Check.due("undo()", x.undo(), 1);
    Check.due("count(2)", x.count(2), 1);
    String state = Told.state(Told::full);
    Check.dueWords("the state behind keep", Told.state(Told.behind(Told::full, LeakCarousel::keep)), state);
  }

  private static void promise14LaterActsLeaveIt() {
    Told.Made restored = Told.behind(Told::busy, x -> {
      x.keep();
      x.run(40);
      x.build(2);
      Runs.read(x, "p1/1;p1/1");
      Runs.setPressure(x, 0, 1.0);
      x.equip(0, 3, 2);
      x.run(9);
      return x.restore();
    });
    Check.dueWords("the snapshot", Told.state(restored), Told.state(Told::busy));
  }

  // ---- promise 15: restore

  /** "NONE if there is no snapshot": the history is none. */
  private static void promise15NoSnapshot() {
    Told.dueRefused("restore() at first", Told::fresh, LeakCarousel::restore, LeakCarousel.NONE);
    Told.dueRefused("restore() of sixty", Told::full, LeakCarousel::restore, LeakCarousel.NONE);
  }

  /** "Returns the number of parts then" */
  private static void promise15PartsThen() {
    LeakCarousel x = new LeakCarousel();
    x.keep();
    x.add(false, 1, 1);
    Check.due("restore() of none", x.restore(), 0);
    Check.due("count(2)", x.count(2), 0);
    x = Told.full();
    x.keep();
    x.build(2);
    Check.due("restore() of sixty", x.restore(), 60);
    Check.due("count(2)", x.count(2), 60);
    Check.due("add of a 61st", x.add(false, 1, 1), LeakCarousel.FULL);
  }

  /** "the snapshot, which stays" */
  private static void promise15SnapshotStays() {
    Told.Made once = Told.behind(Told::busy, LeakCarousel::restore);
    Told.Made thrice = Told.behind(once, x -> {
      x.run(40);
      x.restore();
      x.build(2);
      x.add(true, 1, 1);
      return x.restore();
    });
    Check.dueWords("the third restore()", Told.state(thrice), Told.state(once));
  }

  private static void promise15RestoreIsAnAct() {
    Told.dueAct("restore()", Told::busy, LeakCarousel::restore, 5);
    Told.Made kept = Told.behind(Told::full, LeakCarousel::keep);
    Told.dueAct("restore() of what is so already", kept, LeakCarousel::restore, 60);
    Told.Made first = Told.behind(Told::fresh, LeakCarousel::keep);
    Told.dueAct("restore() with an empty history", first, LeakCarousel::restore, 0);
  }

  private static void promise15FullHistory() {
    LeakCarousel x = Told.withParts(2);
    x.keep();
    for (int i = 0; i < 6; i++) {
      Check.due("restore()", x.restore(), 2);
    }
    Check.due("count(15)", x.count(15), 4);
    for (int left = 3; left >= 0; left--) {
      Check.due("undo()", x.undo(), left);
      Check.due("count(2)", x.count(2), 2);
    }
    Check.due("undo()", x.undo(), LeakCarousel.NONE);
  }

  private static void promise15SnapshotIsNotTheText() {
    LeakCarousel x = new LeakCarousel();
    Runs.write(x, "step");
    x.keep();
    Runs.write(x, "turn!");
    x.restore();
    Check.due("count(16)", x.count(16), 5);
    Check.due("perform()", x.perform(), LeakCarousel.BAD_VALUE);
    x.clearText();
    x.restore();
    Check.due("count(16)", x.count(16), 0);
  }

  private static void promise15OtherNumberOfHeads() {
    LeakCarousel x = Told.withHeads(8);
    x.equip(7, 9, 1);
    x.run(7);
    x.keep();
    x.build(2);
    x.run(1);
    Check.due("head(7, 0)", x.head(7, 0), LeakCarousel.UNKNOWN);
    x.restore();
    Check.due("head(7, 0)", x.head(7, 0), 9);
    Check.due("head(7, 8)", x.head(7, 8), 0);
    x.undo();
    Check.due("count(0)", x.count(0), 2);
    Check.due("head(1, 8)", x.head(1, 8), 0);
    Check.due("head(2, 0)", x.head(2, 0), LeakCarousel.UNKNOWN);
  }

  /** "A state is everything but the text, the history and the snapshot." */
  private static void promise15EverythingButTheText() {
    Told.Made[] states = {Told::fresh, Told::busy, Told::full, Told::worn};
    for (Told.Made kept : states) {
      for (int heads = 2; heads <= 8; heads += 6) {
        int many = heads;
        Told.Made restored = Told.behind(kept, x -> {
          x.keep();
          x.build(many);
          Runs.setPressure(x, 0, 2.0);
          Runs.setPressure(x, 1, 3.0);
          Runs.setPressure(x, 2, 4.0);
          x.setInterval(5);
          Runs.read(x, "p1/1;p50/100;v900/1");
          x.run(13);
          return x.restore();
        });
        Check.dueWords("what was kept", Told.state(restored), Told.state(kept));
        Told.Made later = Told.behind(restored, x -> x.run(21));
        Told.Made straight = Told.behind(kept, x -> x.run(21));
        Check.dueWords("what follows", Told.state(later), Told.state(straight));
      }
    }
  }

  // ---- errors

  /** "A call that returns an error or NONE changes nothing": many of them, one behind the other. */
  private static void errorsChangeNothing() {
    Told.Made written = Told.written(Told::busy, "stops");
    Told.Made refused = Told.behind(Told::busy, x -> {
      refuse(x);
      return 0;
    });
    Check.dueWords("behind what was refused", Told.all(refused), Told.all(written));
  }

  private static void constants() {
    Check.due("UNKNOWN", LeakCarousel.UNKNOWN, -1);
    Check.due("BAD_VALUE", LeakCarousel.BAD_VALUE, -2);
    Check.due("FULL", LeakCarousel.FULL, -3);
    Check.due("NOT_POSSIBLE", LeakCarousel.NOT_POSSIBLE, -4);
    Check.due("NONE", LeakCarousel.NONE, -5);
  }
}
