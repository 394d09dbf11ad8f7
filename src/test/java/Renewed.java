import java.util.ArrayList;
import java.util.List;

/**
 * A carousel for tests that ask more than the 512 calls which the document promises of an object: before
 * they are used up, another object is brought to the same state by the calls that changed something.
 */
final class Renewed {
  private static final int MOST_CALLS = 512;
  private static final int MOST_CHANGES = 400;

  private interface Change {
    int on(LeakCarousel x);
  }

  private final List<Change> changes = new ArrayList<>();
  private LeakCarousel x = new LeakCarousel();
  private int calls;

  private LeakCarousel next() {
    if (calls == MOST_CALLS) {
      x = new LeakCarousel();
      for (Change change : changes) {
        change.on(x);
      }
      calls = changes.size();
    }
    calls++;
    return x;
  }

  /** Errors and NONE are below 0, and change nothing. */
  private int change(Change change) {
    int answer = change.on(next());
    if (answer >= 0) {
      changes.add(change);
    }
    if (changes.size() > MOST_CHANGES) {
      throw new IllegalStateException("too many changes for one object");
    }
    return answer;
  }

  int build(int heads) {
    return change(y -> y.build(heads));
  }

  int setPressure(int what, long bits) {
    return change(y -> y.setPressure(what, bits));
  }

  int setInterval(int tests) {
    return change(y -> y.setInterval(tests));
  }

  int equip(int head, int wear, int fixture) {
    return change(y -> y.equip(head, wear, fixture));
  }

  int calibrate(int head, int master) {
    return change(y -> y.calibrate(head, master));
  }

  int add(boolean pipe, int leak, int volume) {
    return change(y -> y.add(pipe, leak, volume));
  }

  int run(int steps) {
    return change(y -> y.run(steps));
  }

  int type(char character) {
    return change(y -> y.type(character));
  }

  int clearText() {
    return change(LeakCarousel::clearText);
  }

  int readParts() {
    return change(LeakCarousel::readParts);
  }

  int perform() {
    return change(LeakCarousel::perform);
  }

  int undo() {
    return change(LeakCarousel::undo);
  }

  int keep() {
    return change(LeakCarousel::keep);
  }

  int restore() {
    return change(LeakCarousel::restore);
  }

  int head(int head, int what) {
    return next().head(head, what);
  }

  double gauge(int head, int what) {
    return next().gauge(head, what);
  }

  int display(int head) {
    return next().display(head);
  }

  int part(int part, int what) {
    return next().part(part, what);
  }

  int fits(int part, int head) {
    return next().fits(part, head);
  }

  double value(int part) {
    return next().value(part);
  }

  double foretold(int part, int head) {
    return next().foretold(part, head);
  }

  long pressureBits(int what) {
    return next().pressureBits(what);
  }

  double trace(int head, int step) {
    return next().trace(head, step);
  }

  int count(int what) {
    return next().count(what);
  }
}
