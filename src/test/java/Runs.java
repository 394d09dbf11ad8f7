/** What several tests do with a carousel. */
final class Runs {
  static final int WAITING = 0;
  static final int ON_HEAD = 1;
  static final int ACCEPTED = 2;
  static final int REJECTED = 3;

  private Runs() {
  }

  /** Types a text anew. */
  static void write(LeakCarousel x, String words) {
    x.clearText();
    for (int i = 0; i < words.length(); i++) {
      x.type(words.charAt(i));
    }
  }

  static int read(LeakCarousel x, String words) {
    write(x, words);
    return x.readParts();
  }

  static int perform(LeakCarousel x, String words) {
    write(x, words);
    return x.perform();
  }

  static int setPressure(LeakCarousel x, int what, double number) {
    return x.setPressure(what, Double.doubleToRawLongBits(number));
  }

  static void write(Renewed x, String words) {
    x.clearText();
    for (int i = 0; i < words.length(); i++) {
      x.type(words.charAt(i));
    }
  }

  static int read(Renewed x, String words) {
    write(x, words);
    return x.readParts();
  }

  static int perform(Renewed x, String words) {
    write(x, words);
    return x.perform();
  }

  static int setPressure(Renewed x, int what, double number) {
    return x.setPressure(what, Double.doubleToRawLongBits(number));
  }

  /** The pressure behind so many steps, as it stands under STEPS. */
  static double decayed(double from, int leak, int volume, int times) {
    double p = from;
    for (int i = 0; i < times; i++) {
      p = p - p * leak / (1000.0 * volume);
      if (p < 0.0) {
        p = 0.0;
      }
    }
    return p;
  }

  /** Everything that is told but the history (count(15)) and the text (count(16)). */
  static String stateOf(Renewed x) {
    StringBuilder told = new StringBuilder();
    for (int what = 0; what <= 14; what++) {
      told.append(x.count(what)).append(' ');
    }
    for (int what = 0; what <= 2; what++) {
      told.append(x.pressureBits(what)).append(' ');
    }
    for (int head = 0; head < x.count(0); head++) {
      tellHead(told, x, head);
    }
    for (int part = 0; part < x.count(2); part++) {
      tellPart(told, x, part);
    }
    return told.toString();
  }

  private static void tellHead(StringBuilder told, Renewed x, int head) {
    told.append("\nhead ").append(head);
    for (int what = 0; what <= 8; what++) {
      told.append(' ').append(x.head(head, what));
    }
    for (int what = 0; what <= 3; what++) {
      told.append(' ').append(x.gauge(head, what));
    }
    for (int step = 0; step < 9; step++) {
      told.append(' ').append(x.trace(head, step));
    }
    told.append(' ').append(x.display(head));
  }

  private static void tellPart(StringBuilder told, Renewed x, int part) {
    told.append("\npart ").append(part);
    for (int what = 0; what <= 8; what++) {
      told.append(' ').append(x.part(part, what));
    }
    told.append(' ').append(x.value(part));
    for (int head = 0; head < x.count(0); head++) {
      told.append(' ').append(x.fits(part, head)).append(' ').append(x.foretold(part, head));
    }
  }

  /** An error or NONE: it answers so, and changes nothing. */
  static void dueRefused(Renewed x, String call, java.util.function.IntSupplier act, int due) {
    String before = stateOf(x);
    int states = x.count(15);
    int length = x.count(16);
    Check.due(call, act.getAsInt(), due);
    Check.dueTrue(call + " changes nothing", before.equals(stateOf(x)));
    Check.due("count(15) behind " + call, x.count(15), states);
    Check.due("count(16) behind " + call, x.count(16), length);
  }

  /** An act: it answers so, records one state, and undo brings back the one before. */
  static void dueAct(Renewed x, String call, java.util.function.IntSupplier act, int due) {
    String before = stateOf(x);
    int states = Math.min(x.count(15) + 1, 4);
    int length = x.count(16);
    Check.due(call, act.getAsInt(), due);
    Check.due("count(15) behind " + call, x.count(15), states);
    Check.due("count(16) behind " + call, x.count(16), length);
    String behind = stateOf(x);
    Check.due("undo() of " + call, x.undo(), states - 1);
    Check.dueTrue("undo() of " + call + " brings back the state", before.equals(stateOf(x)));
    Check.due(call + " once more", act.getAsInt(), due);
    Check.dueTrue(call + " does the same again", behind.equals(stateOf(x)));
  }
}
