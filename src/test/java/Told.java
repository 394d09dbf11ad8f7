/**
 * What is told of a carousel that can be made again by the same calls. The document promises 512 calls
 * of an object and no more, so as many objects are made as it takes to tell everything.
 */
final class Told {
  /** Calls that tell, on one object; what made it takes at most some 350. */
  private static final int MOST_TOLD = 100;
  private static final int MOST_STATES = 4;

  /** Makes the same carousel each time. */
  interface Made {
    LeakCarousel make();
  }

  interface Call {
    long on(LeakCarousel x);
  }

  private final Made made;
  private final StringBuilder words = new StringBuilder();
  private LeakCarousel x;
  private int calls;

  private Told(Made made) {
    this.made = made;
  }

  // ---- carousels to begin with

  static LeakCarousel fresh() {
    return new LeakCarousel();
  }

  /**
   * Three heads (two of them hold a part), a part in each of the four states, other settings than at
   * first, a full history, a snapshot that differs from the state, and a text.
   */
  static LeakCarousel busy() {
    LeakCarousel x = new LeakCarousel();
    x.setInterval(7);
    Runs.setPressure(x, 0, 400.0);
    Runs.setPressure(x, 1, 19.0);
    Runs.setPressure(x, 2, 31.0);
    x.build(3);
    x.equip(0, 500, 1);
    x.equip(2, 7, 2);
    x.calibrate(1, 300);
    Runs.read(x, "v60/100;v900/1;v20/10;v21/10;v22/10");
    x.keep();
    x.run(7);
    Runs.write(x, "v1/1;p");
    return x;
  }

  /** Sixty parts that wait, valves and pipes in turn, a full history, no snapshot, and a part as text. */
  static LeakCarousel full() {
    LeakCarousel x = withParts(60);
    Runs.write(x, "v1/1");
    return x;
  }

  /** Eight heads that have all tested, and are worn, calibrated and equipped; parts of every state. */
  static LeakCarousel worn() {
    LeakCarousel x = withHeads(8);
    for (int head = 0; head < 8; head++) {
      x.equip(head, 1000 - head, 0);
    }
    int[][] parts = {{900, 9}, {50, 100}, {7, 999}, {80, 100}};
    for (int i = 0; i < 32; i++) {
      x.add(i % 3 == 0, parts[i % 4][0], parts[i % 4][1]);
    }
    x.run(17);
    Runs.perform(x, "clear");
    for (int head = 0; head < 8; head++) {
      x.calibrate(head, 100 + head);
    }
    x.run(11);
    for (int head = 0; head < 8; head++) {
      x.equip(head, head, 1 + head % 2);
    }
    return x;
  }

  static LeakCarousel withParts(int parts) {
    LeakCarousel x = new LeakCarousel();
    for (int i = 0; i < parts; i++) {
      x.add(i % 2 == 1, i, 1 + i);
    }
    return x;
  }

  static LeakCarousel withHeads(int heads) {
    LeakCarousel x = new LeakCarousel();
    x.build(heads);
    return x;
  }

  static Made behind(Made made, Call call) {
    return () -> {
      LeakCarousel x = made.make();
      call.on(x);
      return x;
    };
  }

  /** With another text. */
  static Made written(Made made, String words) {
    return () -> {
      LeakCarousel x = made.make();
      Runs.write(x, words);
      return x;
    };
  }

  static Made behindUndos(Made made, int undos) {
    return () -> {
      LeakCarousel x = made.make();
      for (int i = 0; i < undos; i++) {
        x.undo();
      }
      return x;
    };
  }

  // ---- what is told

  /** The state: everything but the history, the snapshot and the text. */
  static String state(Made made) {
    Told told = new Told(made);
    told.tellState();
    return told.words.toString();
  }

  /** The state, and what the history, the snapshot and the text hold. */
  static String all(Made made) {
    Told told = new Told(made);
    told.tellState();
    told.tell("history", told.next().count(15));
    told.tell("text", told.next().count(16));
    for (int undos = 1; undos <= MOST_STATES + 1; undos++) {
      told.tell("undo", behindUndos(made, undos - 1).make().undo());
      told.words.append(state(behindUndos(made, undos)));
    }
    told.tell("restore", made.make().restore());
    told.words.append(state(behind(made, LeakCarousel::restore)));
    told.tell("readParts", made.make().readParts());
    told.tell("perform", made.make().perform());
    told.words.append(state(behind(made, LeakCarousel::perform)));
    told.tell("type", made.make().type('x'));
    told.tell("clearText", made.make().clearText());
    return told.words.toString();
  }

  private LeakCarousel next() {
    if (x == null || calls == MOST_TOLD) {
      x = made.make();
      calls = 0;
    }
    calls++;
    return x;
  }

  private void tell(String call, long answer) {
    words.append(call).append(": ").append(answer).append('\n');
  }

  private void tellNumber(String call, double answer) {
    words.append(call).append(": ").append(answer).append('\n');
  }

  private void tellState() {
    int heads = next().count(0);
    int parts = next().count(2);
    for (int what = 0; what <= 14; what++) {
      tell("count(" + what + ")", next().count(what));
    }
    for (int what = 0; what <= 2; what++) {
      tell("pressureBits(" + what + ")", next().pressureBits(what));
    }
    for (int head = 0; head < heads; head++) {
      tellHead(head);
    }
    for (int part = 0; part < parts; part++) {
      tellPart(part, heads);
    }
  }

  private void tellHead(int head) {
    for (int what = 0; what <= 8; what++) {
      tell("head(" + head + ", " + what + ")", next().head(head, what));
    }
    for (int what = 0; what <= 3; what++) {
      tellNumber("gauge(" + head + ", " + what + ")", next().gauge(head, what));
    }
    for (int step = 0; step <= 8; step++) {
      tellNumber("trace(" + head + ", " + step + ")", next().trace(head, step));
    }
    tell("display(" + head + ")", next().display(head));
  }

  private void tellPart(int part, int heads) {
    for (int what = 0; what <= 8; what++) {
      tell("part(" + part + ", " + what + ")", next().part(part, what));
    }
    tellNumber("value(" + part + ")", next().value(part));
    for (int head = 0; head < heads; head++) {
      tell("fits(" + part + ", " + head + ")", next().fits(part, head));
      tellNumber("foretold(" + part + ", " + head + ")", next().foretold(part, head));
    }
  }

  // ---- what is due

  /** An error or NONE: the call answers so, and everything told is the same before and behind it. */
  static void dueRefused(String name, Made made, Call call, int due) {
    String before = all(made);
    Check.due(name, call.on(made.make()), due);
    Check.dueWords("what is told behind " + name, all(behind(made, call)), before);
  }

  /** Refused by an empty carousel, and by one at work. */
  static void dueRefused(String name, Call call, int due) {
    dueRefused(name + " of a new object", Told::fresh, call, due);
    dueRefused(name + " at work", Told::busy, call, due);
  }

  /**
   * An act: the call answers so, and records one state, the one before it; the older states (but for
   * the one that a full history drops), the snapshot and the text stay.
   */
  static void dueAct(String name, Made made, Call call, int due) {
    LeakCarousel x = made.make();
    int states = Math.min(x.count(15) + 1, MOST_STATES);
    int length = x.count(16);
    Check.due(name, call.on(x), due);
    Check.due("count(15) behind " + name, x.count(15), states);
    Check.due("count(16) behind " + name, x.count(16), length);
    Check.due("undo() of " + name, x.undo(), states - 1);
    Made acted = behind(made, call);
    for (int undos = 0; undos < states; undos++) {
      String before = state(behindUndos(made, undos));
      String undone = state(behindUndos(acted, undos + 1));
      Check.dueWords((undos + 1) + " undo() behind " + name, undone, before);
    }
    Check.due("undo() of all behind " + name, behindUndos(acted, states).make().undo(), LeakCarousel.NONE);
    Check.due("restore() behind " + name, acted.make().restore(), made.make().restore());
    if (made.make().restore() != LeakCarousel.NONE) {
      String kept = state(behind(made, LeakCarousel::restore));
      Check.dueWords("the snapshot behind " + name, state(behind(acted, LeakCarousel::restore)), kept);
    }
  }

  /** An act, on an empty carousel and on one at work. */
  static void dueAct(String name, Call call, int dueOfNew, int dueAtWork) {
    dueAct(name + " of a new object", Told::fresh, call, dueOfNew);
    dueAct(name + " at work", Told::busy, call, dueAtWork);
  }
}
