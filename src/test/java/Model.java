import java.util.ArrayList;
import java.util.List;
import java.util.regex.Matcher;
import java.util.regex.Pattern;

/** The document told once more with the Java library, in its plainest form; slow, and made to be compared with. */
final class Model {
  private static final String PART = "[vp](0|[1-9][0-9]{0,4})/[1-9][0-9]{0,2}";
  private static final Pattern PARTS = Pattern.compile(PART + "(;" + PART + ")*");

  private static final class Tested {
    boolean pipe;
    int leak;
    int volume;
    int state;
    int cause = -5;
    int retests;
    List<Integer> heads = new ArrayList<>();
    List<Double> values = new ArrayList<>();

    Tested copy() {
      Tested c = new Tested();
      c.pipe = pipe;
      c.leak = leak;
      c.volume = volume;
      c.state = state;
      c.cause = cause;
      c.retests = retests;
      c.heads.addAll(heads);
      c.values.addAll(values);
      return c;
    }
  }

  private static final class Spot {
    double gain = 1.0;
    double factor = 1.0;
    int wear;
    int fixture;
    int since;
    int part = -5;
    List<Double> pressures = new ArrayList<>();
    int[] ended = new int[4];

    Spot copy() {
      Spot c = new Spot();
      c.gain = gain;
      c.factor = factor;
      c.wear = wear;
      c.fixture = fixture;
      c.since = since;
      c.part = part;
      c.pressures.addAll(pressures);
      c.ended = ended.clone();
      return c;
    }
  }

  private static final class World {
    double[] pressures = {500.0, 20.0, 30.0};
    int interval = 20;
    int step;
    List<Spot> spots = new ArrayList<>();
    List<Tested> parts = new ArrayList<>();
    List<Integer> row = new ArrayList<>();

    World(int heads) {
      for (int i = 0; i < heads; i++) {
        spots.add(new Spot());
      }
    }

    World copy() {
      World c = new World(0);
      c.pressures = pressures.clone();
      c.interval = interval;
      c.step = step;
      for (Spot spot : spots) {
        c.spots.add(spot.copy());
      }
      for (Tested part : parts) {
        c.parts.add(part.copy());
      }
      c.row.addAll(row);
      return c;
    }
  }

  private World now = new World(4);
  private final List<World> history = new ArrayList<>();
  private World snapshot;
  private String text = "";

  private void save() {
    history.add(now.copy());
    if (history.size() > 4) {
      history.remove(0);
    }
  }

  private boolean noHead(int head) {
    return head < 0 || head >= now.spots.size();
  }

  private boolean noPart(int part) {
    return part < 0 || part >= now.parts.size();
  }

  int build(int heads) {
    if (heads < 2 || heads > 8) {
      return -2;
    }
    save();
    World next = new World(heads);
    next.pressures = now.pressures.clone();
    next.interval = now.interval;
    int parts = now.parts.size();
    now = next;
    return parts;
  }

  int setPressure(int what, long bits) {
    double number = Double.longBitsToDouble(bits);
    double[] least = {1.0, 0.0, 0.0};
    double[] most = {1000.0, 1000000.0, 1000000.0};
    if (what < 0 || what > 2 || !(number >= least[what] && number <= most[what]) || bits == Long.MIN_VALUE) {
      return -2;
    }
    if (number == now.pressures[what]) {
      return -5;
    }
    save();
    now.pressures[what] = number;
    return 1;
  }

  int setInterval(int tests) {
    if (tests < 1 || tests > 99) {
      return -2;
    }
    if (tests == now.interval) {
      return -5;
    }
    save();
    int before = now.interval;
    now.interval = tests;
    return before;
  }

  int equip(int head, int wear, int fixture) {
    if (noHead(head)) {
      return -1;
    }
    if (wear < 0 || wear > 1000 || fixture < 0 || fixture > 2) {
      return -2;
    }
    Spot spot = now.spots.get(head);
    if (spot.wear == wear && spot.fixture == fixture) {
      return -5;
    }
    save();
    int before = spot.wear;
    spot.wear = wear;
    spot.fixture = fixture;
    return before;
  }

  int calibrate(int head, int m) {
    if (noHead(head)) {
      return -1;
    }
    if (m < 1 || m > 99999) {
      return -2;
    }
    Spot spot = now.spots.get(head);
    if (spot.part >= 0) {
      return -4;
    }
    save();
    double p = now.pressures[0];
    for (int i = 1; i < now.spots.size(); i++) {
      p = p - p * m / (1000.0 * 100.0);
    }
    double expected = (now.pressures[0] - p) * 100.0 / (now.spots.size() - 1);
    spot.factor = expected / (expected * spot.gain);
    int before = spot.since;
    spot.since = 0;
    return before;
  }

  private void append(boolean pipe, int leak, int volume) {
    Tested part = new Tested();
    part.pipe = pipe;
    part.leak = leak;
    part.volume = volume;
    now.row.add(now.parts.size());
    now.parts.add(part);
  }

  int add(boolean pipe, int leak, int volume) {
    if (leak < 0 || leak > 99999 || volume < 1 || volume > 999) {
      return -2;
    }
    if (now.parts.size() == 60) {
      return -3;
    }
    save();
    append(pipe, leak, volume);
    return now.parts.size() - 1;
  }

  int run(int steps) {
    if (steps < 1 || steps > 40) {
      return -2;
    }
    save();
    return steps(steps);
  }

  private int steps(int many) {
    int ended = 0;
    for (int i = 0; i < many; i++) {
      ended += step();
    }
    return ended;
  }

  private static boolean takes(Spot spot, Tested part) {
    return spot.fixture == 0 || spot.fixture == (part.pipe ? 2 : 1);
  }

  private static double last(List<Double> list) {
    return list.get(list.size() - 1);
  }

  private int step() {
    int here = now.step % now.spots.size();
    Spot spot = now.spots.get(here);
    int ended = 0;
    if (spot.part >= 0) {
      end(spot, here);
      ended = 1;
    }
    for (int i = 0; i < now.row.size(); i++) {
      Tested part = now.parts.get(now.row.get(i));
      boolean there = !part.heads.isEmpty() && part.heads.get(part.heads.size() - 1) == here;
      if (takes(spot, part) && !there) {
        spot.part = now.row.remove(i);
        part.state = 1;
        spot.pressures.clear();
        spot.pressures.add(now.pressures[0]);
        break;
      }
    }
    for (int i = 0; i < now.spots.size(); i++) {
      Spot other = now.spots.get(i);
      if (i != here && other.part >= 0) {
        Tested part = now.parts.get(other.part);
        double p = last(other.pressures);
        p = p - p * part.leak / (1000.0 * part.volume);
        other.pressures.add(p < 0.0 ? 0.0 : p);
      }
    }
    now.step++;
    return ended;
  }

  private void end(Spot spot, int here) {
    int number = spot.part;
    Tested part = now.parts.get(number);
    double filled = spot.pressures.get(0);
    double present = last(spot.pressures);
    double drop = filled - present;
    double measured = drop * part.volume / (now.spots.size() - 1) * spot.gain;
    double value = measured * spot.factor;
    spot.since++;
    spot.part = -5;
    part.values.add(value);
    part.heads.add(here);
    spot.ended[0]++;
    int cause = -5;
    boolean again = false;
    if (present < filled / 2) {
      cause = 1;
    } else if (spot.since > now.interval) {
      cause = 4;
      again = true;
    } else if (value <= now.pressures[1]) {
      cause = -5;
    } else if (value > now.pressures[2]) {
      cause = 2;
    } else {
      cause = 3;
      again = true;
    }
    if (cause == -5) {
      part.state = 2;
      spot.ended[1]++;
    } else if (again && part.retests < 2) {
      part.retests++;
      part.state = 0;
      now.row.add(0, number);
      spot.ended[3]++;
    } else {
      part.state = 3;
      part.cause = cause;
      spot.ended[2]++;
    }
    spot.gain = spot.gain * (1.0 - spot.wear / 1000000.0);
  }

  int type(char character) {
    if (text.length() == 60) {
      return -3;
    }
    text = text + character;
    return text.length();
  }

  int clearText() {
    int length = text.length();
    text = "";
    return length;
  }

  int readParts() {
    for (int end = 1; end <= text.length(); end++) {
      Matcher matcher = PARTS.matcher(text.substring(0, end));
      if (!matcher.matches() && !matcher.hitEnd()) {
        return -100 - (end - 1);
      }
    }
    if (!PARTS.matcher(text).matches()) {
      return -100 - text.length();
    }
    String[] told = text.split(";");
    if (now.parts.size() + told.length > 60) {
      return -3;
    }
    save();
    for (String part : told) {
      String[] numbers = part.substring(1).split("/");
      append(part.charAt(0) == 'p', Integer.parseInt(numbers[0]), Integer.parseInt(numbers[1]));
    }
    return told.length;
  }

  int perform() {
    switch (text) {
      case "step":
        save();
        return steps(1);
      case "turn":
        save();
        return steps(now.spots.size());
      case "stop":
        return stop();
      case "clear":
        return clear();
      default:
        return -2;
    }
  }

  private int stop() {
    int waiting = now.row.size();
    if (waiting == 0) {
      return -5;
    }
    save();
    for (int number : now.row) {
      now.parts.get(number).state = 3;
      now.parts.get(number).cause = 5;
    }
    now.row.clear();
    return waiting;
  }

  private int clear() {
    List<Integer> taken = new ArrayList<>();
    for (Spot spot : now.spots) {
      if (spot.part >= 0) {
        taken.add(spot.part);
      }
    }
    if (taken.isEmpty()) {
      return -5;
    }
    save();
    for (Spot spot : now.spots) {
      spot.part = -5;
    }
    for (int number : taken) {
      now.parts.get(number).state = 0;
    }
    now.row.addAll(0, taken);
    return taken.size();
  }

  int undo() {
    if (history.isEmpty()) {
      return -5;
    }
    now = history.remove(history.size() - 1);
    return history.size();
  }

  int keep() {
    snapshot = now.copy();
    return now.parts.size();
  }

  int restore() {
    if (snapshot == null) {
      return -5;
    }
    save();
    now = snapshot.copy();
    return now.parts.size();
  }

  int head(int head, int what) {
    if (noHead(head)) {
      return -1;
    }
    if (what < 0 || what > 8) {
      return -2;
    }
    Spot spot = now.spots.get(head);
    int steps = 0;
    while ((now.step + steps) % now.spots.size() != head) {
      steps++;
    }
    int[] told = {spot.wear, spot.fixture, spot.since, spot.part,
      spot.ended[0], spot.ended[1], spot.ended[2], spot.ended[3], steps};
    return told[what];
  }

  double gauge(int head, int what) {
    if (noHead(head) || what < 0 || what > 3) {
      return Double.NaN;
    }
    Spot spot = now.spots.get(head);
    if (what < 2) {
      return what == 0 ? spot.gain : spot.factor;
    }
    return spot.part < 0 ? Double.NaN : what == 2 ? spot.pressures.get(0) : last(spot.pressures);
  }

  int display(int head) {
    if (noHead(head)) {
      return -1;
    }
    Spot spot = now.spots.get(head);
    return spot.part < 0 ? -5 : Float.floatToRawIntBits((float) last(spot.pressures));
  }

  int part(int number, int what) {
    if (noPart(number)) {
      return -1;
    }
    if (what < 0 || what > 8) {
      return -2;
    }
    Tested part = now.parts.get(number);
    int place = now.row.indexOf(number);
    int[] told = {part.pipe ? 1 : 0, part.leak, part.volume, part.state, part.heads.size(), part.retests,
      part.heads.isEmpty() ? -5 : part.heads.get(part.heads.size() - 1), part.cause, place < 0 ? -5 : place};
    return told[what];
  }

  int fits(int part, int head) {
    if (noPart(part) || noHead(head)) {
      return -1;
    }
    return takes(now.spots.get(head), now.parts.get(part)) ? 1 : 0;
  }

  double value(int part) {
    return noPart(part) || now.parts.get(part).values.isEmpty() ? Double.NaN : last(now.parts.get(part).values);
  }

  double foretold(int number, int head) {
    if (noPart(number) || noHead(head)) {
      return Double.NaN;
    }
    Tested part = now.parts.get(number);
    Spot spot = now.spots.get(head);
    double p = now.pressures[0];
    for (int i = 1; i < now.spots.size(); i++) {
      p = p - p * part.leak / (1000.0 * part.volume);
      p = p < 0.0 ? 0.0 : p;
    }
    double measured = (now.pressures[0] - p) * part.volume / (now.spots.size() - 1) * spot.gain;
    return measured * spot.factor;
  }

  long pressureBits(int what) {
    return what < 0 || what > 2 ? -2 : Double.doubleToRawLongBits(now.pressures[what]);
  }

  double trace(int head, int step) {
    if (noHead(head)) {
      return Double.NaN;
    }
    Spot spot = now.spots.get(head);
    boolean known = spot.part >= 0 && step >= 0 && step < spot.pressures.size();
    return known ? spot.pressures.get(step) : Double.NaN;
  }

  int count(int what) {
    int[] states = new int[4];
    int[] causes = new int[6];
    for (Tested part : now.parts) {
      states[part.state]++;
      causes[part.cause < 0 ? 0 : part.cause]++;
    }
    int tests = 0;
    int retests = 0;
    for (Spot spot : now.spots) {
      tests += spot.ended[0];
      retests += spot.ended[3];
    }
    int[] told = {now.spots.size(), now.step, now.parts.size(), states[0], states[1], states[2], states[3],
      tests, retests, now.interval, causes[1], causes[2], causes[3], causes[4], causes[5],
      history.size(), text.length()};
    return what < 0 || what >= told.length ? -2 : told[what];
  }
}
