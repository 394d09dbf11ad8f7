/**
 * Long runs of mixed calls, each answer compared with that of the Model: promises 1 to 25 together.
 * An object gets 512 calls, as many as the document promises. Chance is counted here, not drawn, so
 * every run of this test is the same.
 */
public final class ModelTest {
  private static final int OBJECTS = 4000;
  private static final int CALLS = 512;
  /** Of writing a text anew, and of performing and reading it. */
  private static final int MOST_AT_ONCE = 63;
  private static final double[] PRESSURES = {0.0, 1.0, 2.0, 19.5, 20.0, 25.0, 30.0, 100.0, 333.3, 500.0, 1000.0,
    1000000.0, 1.0e-300, Double.MIN_VALUE, 0.999, 1000.001, 1000000.5, -1.0, -0.0};
  private static final int[] LEAKS = {0, 1, 40, 45, 50, 55, 60, 70, 120, 300, 999, 5000, 60000, 99999, 100000, -1};
  private static final int[] VOLUMES = {1, 2, 7, 10, 100, 100, 100, 500, 999, 1000, 0};
  private static final String[] TEXTS = {"step", "turn", "stop", "clear", "step", "turn", "stopp", "v50/100",
    "p50/100;v48/100;p1/1", "v01/1", "p1/0", "v1/1;", "v55/100;p45/100;v50/99;p900/1", "v123456/1", "p99999/999",
    "v1/1;v1/1;v1/1;v1/1;v1/1;v1/1;v1/1;v1/1;v1/1;v1/1;v1/1;v1/1", "v45/100;x"};

  private static long seed;

  private static int chance(int many) {
    seed = seed * 6364136223846793005L + 1442695040888963407L;
    return (int) ((seed >>> 33) % many);
  }

  public static void main(String[] args) {
    for (int object = 0; object < OBJECTS && Check.allRight(); object++) {
      seed = object * 7919L + 17;
      compare(object);
    }
    Check.finish();
  }

  private static void compare(int object) {
    LeakCarousel x = new LeakCarousel();
    Model m = new Model();
    int telling = 1 + chance(8);
    for (int calls = 0; calls <= CALLS - MOST_AT_ONCE && Check.allRight(); ) {
      String name = "object " + object + ", call " + calls + ": ";
      int kind = chance(10);
      if (kind < telling) {
        calls += tell(x, m, name);
      } else if (kind < 9) {
        calls += act(x, m, name);
      } else {
        calls += write(x, m, name);
      }
    }
  }

  private static int head(Model m) {
    return chance(20) == 0 ? chance(12) - 2 : chance(m.count(0));
  }

  private static int part(Model m) {
    return chance(20) == 0 ? chance(64) - 2 : chance(m.count(2) + 1);
  }

  private static int act(LeakCarousel x, Model m, String name) {
    int head = head(m);
    int few = chance(12) - 1;
    int leak = LEAKS[chance(LEAKS.length)];
    int volume = VOLUMES[chance(VOLUMES.length)];
    boolean pipe = chance(2) == 0;
    int rare = chance(4);
    switch (chance(14)) {
      case 0:
        if (rare == 0) {
          Check.due(name + "build(" + few + ")", x.build(few), m.build(few));
        }
        return 1;
      case 1:
        return setPressure(x, m, name);
      case 2:
        int tests = rare == 0 ? chance(104) - 2 : 1 + chance(6);
        Check.due(name + "setInterval(" + tests + ")", x.setInterval(tests), m.setInterval(tests));
        return 1;
      case 3:
        int wear = rare == 0 ? chance(1100) - 50 : chance(3) * 500;
        int fixture = rare == 1 ? chance(5) - 1 : chance(3);
        String call = name + "equip(" + head + ", " + wear + ", " + fixture + ")";
        Check.due(call, x.equip(head, wear, fixture), m.equip(head, wear, fixture));
        return 1;
      case 4:
        Check.due(name + "calibrate(" + head + ", " + leak + ")", x.calibrate(head, leak), m.calibrate(head, leak));
        return 1;
      case 5: case 6: case 7:
        String added = name + "add(" + pipe + ", " + leak + ", " + volume + ")";
        Check.due(added, x.add(pipe, leak, volume), m.add(pipe, leak, volume));
        return 1;
      case 8: case 9: case 10:
        int steps = rare == 0 ? chance(44) - 1 : 1 + chance(5);
        Check.due(name + "run(" + steps + ")", x.run(steps), m.run(steps));
        return 1;
      case 11:
        Check.due(name + "undo()", x.undo(), m.undo());
        return 1;
      case 12:
        Check.due(name + "keep()", x.keep(), m.keep());
        return 1;
      default:
        if (rare == 0) {
          Check.due(name + "restore()", x.restore(), m.restore());
        }
        return 1;
    }
  }

  private static int setPressure(LeakCarousel x, Model m, String name) {
    int what = chance(10) == 0 ? chance(5) - 1 : chance(3);
    long bits = Double.doubleToRawLongBits(PRESSURES[chance(PRESSURES.length)]);
    if (chance(3) == 0) {
      bits = Double.doubleToRawLongBits(chance(1000000) / 700.0);
    } else if (chance(10) == 0) {
      bits = seed * 31;
    }
    Check.due(name + "setPressure(" + what + ", " + bits + ")", x.setPressure(what, bits), m.setPressure(what, bits));
    return 1;
  }

  private static int write(LeakCarousel x, Model m, String name) {
    Check.due(name + "clearText()", x.clearText(), m.clearText());
    String words = TEXTS[chance(TEXTS.length)];
    int changed = chance(5) == 0 && !words.isEmpty() ? chance(words.length()) : -1;
    for (int i = 0; i < words.length(); i++) {
      char sign = i == changed ? "0123456789/;vp x".charAt(chance(16)) : words.charAt(i);
      Check.due(name + "type(" + (int) sign + ")", x.type(sign), m.type(sign));
    }
    Check.due(name + "perform() of " + words, x.perform(), m.perform());
    Check.due(name + "readParts() of " + words, x.readParts(), m.readParts());
    return words.length() + 3;
  }

  private static int tell(LeakCarousel x, Model m, String name) {
    int head = head(m);
    int part = part(m);
    int what = chance(11) - 1;
    switch (chance(10)) {
      case 0:
        Check.due(name + "head(" + head + ", " + what + ")", x.head(head, what), m.head(head, what));
        break;
      case 1:
        int gauge = chance(6) - 1;
        Check.dueNumber(name + "gauge(" + head + ", " + gauge + ")", x.gauge(head, gauge), m.gauge(head, gauge));
        break;
      case 2:
        Check.due(name + "display(" + head + ")", x.display(head), m.display(head));
        break;
      case 3:
        Check.due(name + "part(" + part + ", " + what + ")", x.part(part, what), m.part(part, what));
        break;
      case 4:
        Check.due(name + "fits(" + part + ", " + head + ")", x.fits(part, head), m.fits(part, head));
        break;
      case 5:
        Check.dueNumber(name + "value(" + part + ")", x.value(part), m.value(part));
        break;
      case 6:
        Check.dueNumber(name + "foretold(" + part + ", " + head + ")", x.foretold(part, head), m.foretold(part, head));
        break;
      case 7:
        int which = chance(5) - 1;
        Check.due(name + "pressureBits(" + which + ")", x.pressureBits(which), m.pressureBits(which));
        break;
      case 8:
        Check.dueNumber(name + "trace(" + head + ", " + what + ")", x.trace(head, what), m.trace(head, what));
        break;
      default:
        int count = chance(19) - 1;
        Check.due(name + "count(" + count + ")", x.count(count), m.count(count));
    }
    return 1;
  }
}
