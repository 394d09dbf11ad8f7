/** Promises 9 to 12: type, clearText, readParts, perform. */
public final class TextTest {
  public static void main(String[] args) {
    promise9Type();
    promise9AnyCharacter();
    promise10ClearText();
    promise11Reads();
    promise11Faults();
    promise11FaultAheadOfFull();
    promise11SixtyCharacters();
    promise12Step();
    promise12Turn();
    promise12Stop();
    promise12Clear();
    promise12NoCommand();
    Check.finish();
  }

  private static void promise9Type() {
    Renewed x = new Renewed();
    for (int i = 1; i <= 60; i++) {
      Check.due("type", x.type((char) ('a' + i % 26)), i);
      Check.due("count(16)", x.count(16), i);
    }
    Runs.dueRefused(x, "the 61st character", () -> x.type('a'), LeakCarousel.FULL);
    Runs.dueRefused(x, "the 61st character", () -> x.type((char) 0), LeakCarousel.FULL);
    Check.due("typing is no act", x.count(15), 0);
    Check.due("clearText()", x.clearText(), 60);
    Check.due("type again", x.type('a'), 1);
    Check.due("clearing is no act", x.count(15), 0);
  }

  private static void promise9AnyCharacter() {
    Renewed x = new Renewed();
    char[] any = {0, 1, '\n', ' ', 127, 128, 233, 255, 256, 0xD800, 0xFFFF};
    for (int i = 0; i < any.length; i++) {
      Check.due("type((char) " + (int) any[i] + ")", x.type(any[i]), i + 1);
    }
    Check.due("readParts()", x.readParts(), -100);
    // characters whose low bits are those of a command or of a part
    Runs.write(x, "ste");
    x.type((char) ('p' + 256));
    Check.due("perform()", x.perform(), LeakCarousel.BAD_VALUE);
    Runs.write(x, "v1/");
    x.type((char) ('1' + 256));
    Check.due("readParts()", x.readParts(), -103);
    x.type('1');
    Check.due("readParts()", x.readParts(), -103);
    // no character stands for the end of the text
    char[] ends = {0, 0xFFFF};
    for (char end : ends) {
      Runs.write(x, "v1/1");
      x.type(end);
      Check.due("readParts()", x.readParts(), -104);
      Runs.write(x, "stop");
      x.type(end);
      Check.due("perform()", x.perform(), LeakCarousel.BAD_VALUE);
    }
  }

  private static void promise10ClearText() {
    Renewed x = new Renewed();
    Check.due("clearText()", x.clearText(), 0);
    Runs.write(x, "v1/1");
    Check.due("clearText()", x.clearText(), 4);
    Check.due("clearText()", x.clearText(), 0);
    Check.due("count(16)", x.count(16), 0);
    Check.due("readParts()", x.readParts(), -100);
    Runs.write(x, "step");
    x.clearText();
    Check.due("perform()", x.perform(), LeakCarousel.BAD_VALUE);
  }

  private static void promise11Reads() {
    Renewed x = new Renewed();
    x.add(true, 5, 5);
    Runs.write(x, "v0/1;p99999/999;v10/20;p305/70");
    Runs.dueAct(x, "readParts()", () -> x.readParts(), 4);
    int[][] due = {{0, 0, 1}, {1, 99999, 999}, {0, 10, 20}, {1, 305, 70}};
    for (int i = 0; i < due.length; i++) {
      for (int what = 0; what < 3; what++) {
        Check.due("part(" + (i + 1) + ", " + what + ")", x.part(i + 1, what), due[i][what]);
      }
      Check.due("part(i, 8)", x.part(i + 1, 8), i + 1);
      Check.due("part(i, 3)", x.part(i + 1, 3), Runs.WAITING);
    }
    Check.due("the text stays", x.count(16), 30);
    Check.due("readParts() again", x.readParts(), 4);
    Check.due("count(2)", x.count(2), 9);
    Check.due("one act each", x.count(15), 3);
    Check.due("undo()", x.undo(), 2);
    Check.due("count(2)", x.count(2), 5);
    Check.due("undo leaves the text", x.count(16), 30);
  }

  private static void promise11Faults() {
    dueFault("", 0);
    dueFault(" ", 0);
    dueFault("V1/1", 0);
    dueFault("1/1", 0);
    dueFault(";", 0);
    dueFault("v", 1);
    dueFault("p", 1);
    dueFault("v/", 1);
    dueFault("vv", 1);
    dueFault("v-1/1", 1);
    dueFault("v1", 2);
    dueFault("v0", 2);
    dueFault("v00/1", 2);
    dueFault("v01/1", 2);
    dueFault("v1x", 2);
    dueFault("v1;", 2);
    dueFault("v12345", 6);
    dueFault("v123456/1", 6);
    dueFault("v10000/", 7);
    dueFault("v1/", 3);
    dueFault("v1/0", 3);
    dueFault("v1/01", 3);
    dueFault("v1/;", 3);
    dueFault("v1//", 3);
    dueFault("v1/1000", 6);
    dueFault("v1/999;", 7);
    dueFault("v1/1v", 4);
    dueFault("v1/1 ", 4);
    dueFault("v1/1/", 4);
    dueFault("v1/10:", 5);
    dueFault("v1/1;", 5);
    dueFault("v1/1;;", 5);
    dueFault("v1/1;x1/1", 5);
    dueFault("v1/1;p", 6);
    dueFault("v1/1;p0/", 8);
    dueFault("v1/1;p0/0", 8);
    dueFault("step", 0);
    dueFault("v1/1;p1/1;v99999/999;p9999", 26);
  }

  private static void dueFault(String words, int fault) {
    Renewed x = new Renewed();
    x.add(true, 1, 1);
    Runs.write(x, words);
    Runs.dueRefused(x, "readParts() of " + words, () -> x.readParts(), -100 - fault);
  }

  private static void promise11FaultAheadOfFull() {
    Renewed x = new Renewed();
    for (int i = 0; i < 58; i++) {
      x.add(false, 1, 1);
    }
    Runs.write(x, "v1/1;v2/2;v3/3");
    Runs.dueRefused(x, "three parts for two places", () -> x.readParts(), LeakCarousel.FULL);
    Runs.write(x, "v1/1;v2/2;v3/3;");
    Runs.dueRefused(x, "a fault ahead of FULL", () -> x.readParts(), -115);
    Runs.write(x, "v1/1;v2/2");
    Runs.dueAct(x, "two parts for two places", () -> x.readParts(), 2);
    Check.due("count(2)", x.count(2), 60);
    Check.due("part(59, 2)", x.part(59, 2), 2);
    Runs.write(x, "v1/1");
    Runs.dueRefused(x, "the 61st part", () -> x.readParts(), LeakCarousel.FULL);
  }

  private static void promise11SixtyCharacters() {
    Renewed x = new Renewed();
    Runs.write(x, "v0/1;v0/1;v0/1;v0/1;v0/1;v0/1;v0/1;v0/1;v0/1;v0/1;v0/1;v0/1;");
    Check.due("count(16)", x.count(16), 60);
    Runs.dueRefused(x, "60 characters, too early", () -> x.readParts(), -160);
    Runs.write(x, "v0/1;v0/1;v0/1;v0/1;v0/1;v0/1;v0/1;v0/1;v0/1;v0/1;v0/1;v0/23");
    Check.due("count(16)", x.count(16), 60);
    Runs.dueAct(x, "60 characters", () -> x.readParts(), 12);
    Check.due("part(11, 2)", x.part(11, 2), 23);
    Runs.write(x, "v0/1;v0/1;v0/1;v0/1;v0/1;v0/1;v0/1;v0/1;v0/1;v0/1;v0/1;v0/2x");
    Runs.dueRefused(x, "the last one is wrong", () -> x.readParts(), -159);
  }

  private static void promise12Step() {
    Renewed x = new Renewed();
    x.build(2);
    x.add(true, 1, 1);
    Runs.write(x, "step");
    Runs.dueAct(x, "perform() of step", () -> x.perform(), 0);
    Check.due("count(1)", x.count(1), 1);
    x.perform();
    Runs.dueAct(x, "perform() of step", () -> x.perform(), 1);
    Check.due("count(1)", x.count(1), 3);
    Check.due("the text stays", x.count(16), 4);
  }

  private static void promise12Turn() {
    for (int heads = 2; heads <= 8; heads++) {
      Renewed x = new Renewed();
      x.build(heads);
      Runs.read(x, "v1/1;v1/1");
      Runs.write(x, "turn");
      Runs.dueAct(x, "perform() of turn", () -> x.perform(), 0);
      Check.due("count(1)", x.count(1), heads);
      Runs.dueAct(x, "perform() of turn", () -> x.perform(), 2);
      Check.due("count(1)", x.count(1), 2 * heads);
      Runs.dueAct(x, "perform() of turn", () -> x.perform(), 0);
    }
  }

  private static void promise12Stop() {
    Renewed x = new Renewed();
    Runs.write(x, "stop");
    Runs.dueRefused(x, "stop without parts", () -> x.perform(), LeakCarousel.NONE);
    Runs.read(x, "v1/1;v50/100;p7/7");
    x.equip(0, 0, 2);
    x.run(1);
    Runs.write(x, "stop");
    Runs.dueAct(x, "perform() of stop", () -> x.perform(), 2);
    Check.due("the one on a head stays", x.part(2, 3), Runs.ON_HEAD);
    for (int part = 0; part < 2; part++) {
      Check.due("part(part, 3)", x.part(part, 3), Runs.REJECTED);
      Check.due("part(part, 7)", x.part(part, 7), 5);
      Check.due("part(part, 8)", x.part(part, 8), LeakCarousel.NONE);
      Check.due("part(part, 4)", x.part(part, 4), 0);
      Check.due("part(part, 6)", x.part(part, 6), LeakCarousel.NONE);
      Check.dueNaN("value(part)", x.value(part));
    }
    Check.due("count(14)", x.count(14), 2);
    Check.due("count(6)", x.count(6), 2);
    Check.due("head(0, 6)", x.head(0, 6), 0);
    Runs.dueRefused(x, "stop without waiting parts", () -> x.perform(), LeakCarousel.NONE);
    Check.due("add behind stop", x.add(false, 1, 1), 3);
    Check.due("part(3, 8)", x.part(3, 8), 0);
  }

  private static void promise12Clear() {
    Renewed x = new Renewed();
    Runs.write(x, "clear");
    Runs.dueRefused(x, "clear of empty heads", () -> x.perform(), LeakCarousel.NONE);
    Runs.read(x, "v50/100;v1/1;v1/2;v1/3;v1/4;v1/5");
    x.run(6);
    // part 0 was retested: head 1 holds it now, and head 0 holds part 4
    Check.due("head(1, 3)", x.head(1, 3), 0);
    double value = x.value(0);
    Runs.write(x, "clear");
    Runs.dueAct(x, "perform() of clear", () -> x.perform(), 4);
    int[] row = {4, 0, 2, 3, 5};
    for (int place = 0; place < row.length; place++) {
      Check.due("place of " + row[place], x.part(row[place], 8), place);
      Check.due("state of " + row[place], x.part(row[place], 3), Runs.WAITING);
    }
    for (int head = 0; head < 4; head++) {
      Check.due("head(head, 3)", x.head(head, 3), LeakCarousel.NONE);
      Check.dueNaN("gauge(head, 3)", x.gauge(head, 3));
      Check.dueNaN("trace(head, 0)", x.trace(head, 0));
    }
    Check.due("no test", x.count(7), 2);
    Check.due("no test", x.part(0, 4), 1);
    Check.due("no retest", x.part(0, 5), 1);
    Check.due("the latest head stays", x.part(0, 6), 0);
    Check.dueNumber("the latest value stays", x.value(0), value);
    Check.due("the steps stay", x.count(1), 6);
    Runs.dueRefused(x, "clear of empty heads", () -> x.perform(), LeakCarousel.NONE);
    x.run(1);
    Check.due("head(2, 3)", x.head(2, 3), 4);
    Check.dueNumber("filled anew", x.gauge(2, 3), 500.0);
    Check.dueNaN("a new trace", x.trace(2, 1));
    x.run(2);
    Check.due("head(0, 3)", x.head(0, 3), 2);
  }

  private static void promise12NoCommand() {
    Renewed x = new Renewed();
    x.add(false, 1, 1);
    String[] wrong = {"", "s", "ste", "steps", "Step", "step ", " step", "STEP", "tur", "turns", "top",
      "stopp", "stop;", "clea", "clears", "cleer", "stap", "torn", "v1/1", "stepstep", "undo"};
    for (String words : wrong) {
      Runs.write(x, words);
      Runs.dueRefused(x, "perform() of " + words, () -> x.perform(), LeakCarousel.BAD_VALUE);
    }
  }
}
