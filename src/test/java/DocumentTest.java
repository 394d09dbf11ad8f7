import java.util.ArrayList;
import java.util.Arrays;
import java.util.List;
import java.util.Map;
import java.util.Set;
import java.util.TreeMap;
import java.util.TreeSet;

/**
 * The document once more, from its first line to its last. Numbers that are due are written out here, as
 * another program told them, and were chosen where another order of the operations tells other ones. Of
 * each act it is told what changes by it: that, and nothing else.
 */
public final class DocumentTest {
  private static final int[] HEADS = {0, 1, 2};
  private static final int[] PARTS = {0, 1, 2, 3, 4};
  private static final int[] STEPS = {0, 1, 2};

  public static void main(String[] args) {
    numbersPressures();
    numbersGains();
    numbersFactors();
    numbersValues();
    stepsOneByOne();
    stepsInOneRun();
    stepChangesThis();
    promise2BuildChangesThis();
    promise3SetPressureChangesThis();
    promise4SetIntervalChangesThis();
    promise5EquipChangesThis();
    promise6CalibrateChangesThis();
    promise7AddChangesThis();
    promise7FullRecordsNothing();
    promise9To10TextChangesThis();
    promise11ReadPartsChangesThis();
    promise12StopChangesThis();
    promise12ClearChangesThis();
    promise12StepAndTurnAreSteps();
    promise13To15HistoryChangesThis();
    promise21ValueStays();
    Check.finish();
  }

  // ---- NUMBERS: "Each operation is rounded by itself, in the order in which it is written"

  /** "the pressure p becomes p - p * leak / (1000.0 * volume)" */
  private static void numbersPressures() {
    double[][] due = {
      {333.25, 3314, 109, 323.11797706422016, 313.2940048074236, 303.768717358508},
      {987.625, 3326, 413, 979.6713904358354, 971.781833427144, 963.9558131414813},
      {333.25, 2895, 6, 172.456875, 89.24643281249999, 46.18502898046874},
      {10.75, 1136, 86, 10.608, 10.467875720930234, 10.329602385825853},
      {77.5, 3829, 277, 76.42870938628158, 75.37222733487337, 74.3303491454682},
      {500.0, 3984, 7, 215.42857142857144, 92.8189387755102, 39.9917027638484},
      {10.75, 3204, 361, 10.65459002770083, 10.56002685194251, 10.466302957112527},
      {500.0, 2784, 18, 422.6666666666667, 357.29422222222223, 302.03271585185183}};
    for (double[] row : due) {
      LeakCarousel x = new LeakCarousel();
      Runs.setPressure(x, 0, row[0]);
      x.add(true, (int) row[1], (int) row[2]);
      x.run(1);
      for (int step = 1; step <= 3; step++) {
        x.run(1);
        Check.dueNumber("gauge(0, 3) in the step " + step, x.gauge(0, 3), row[2 + step]);
      }
      for (int step = 1; step <= 3; step++) {
        Check.dueNumber("trace(0, " + step + ")", x.trace(0, step), row[2 + step]);
      }
    }
  }

  /** The head 0 has tested so many parts without a leak, with this wear. */
  private static LeakCarousel worn(int heads, int wear, int tests) {
    LeakCarousel x = Told.withHeads(heads);
    x.equip(0, wear, 0);
    for (int head = 1; head < heads; head++) {
      x.equip(head, 0, 2);
    }
    for (int test = 0; test < tests; test++) {
      x.add(false, 0, 1);
      x.run(2 * heads);
    }
    return x;
  }

  /** "the gain of the head becomes gain * (1.0 - wear / 1000000.0)" */
  private static void numbersGains() {
    double[][] due = {{222, 8, 0.9982253793394709}, {222, 2, 0.9995560492839999}, {222, 4, 0.999112295660238},
      {123, 6, 0.9992622268977862}, {567, 6, 0.9966028186908649}, {766, 7, 0.9946503061571157},
      {608, 5, 0.9969636943931257}, {322, 3, 0.9990343110186136}};
    for (double[] row : due) {
      LeakCarousel x = worn(3, (int) row[0], (int) row[1]);
      Check.dueNumber("gauge(0, 0) of the wear " + row[0], x.gauge(0, 0), row[2]);
    }
  }

  /** "The expected value is (filling pressure - p) * 100.0 / (n - 1). The factor ... expected / (expected * gain)." */
  private static void numbersFactors() {
    double[][] due = {
      {7, 500.0, 526, 3, 35501, 0.9984228298824683, 1.001579661512465},
      {6, 333.25, 813, 3, 18996, 0.9975629823696324, 1.0024429711942386},
      {4, 10.75, 938, 5, 13442, 0.9953187901909332, 1.0047032265995588},
      {6, 1.0, 249, 5, 18327, 0.9987556198556364, 1.0012459305556083},
      {8, 333.25, 272, 4, 64022, 0.9989124438235107, 1.001088740242665},
      {7, 500.0, 731, 2, 54974, 0.9985385343609999, 1.0014636046469008},
      {6, 1.0, 545, 3, 19739, 0.9983658909131213, 1.0016367837701108},
      {4, 333.25, 841, 2, 87525, 0.998318707281, 1.001684124224797},
      {7, 987.625, 414, 5, 26415, 0.9979317132505673, 1.002072573425586},
      {4, 1000.0, 769, 4, 10436, 0.9969275463473232, 1.0030819227173873},
      {7, 333.25, 470, 2, 46325, 0.9990602209, 1.000940663115536},
      {7, 987.625, 625, 2, 68336, 0.998750390625, 1.0012511728523261},
      {8, 1.0, 994, 5, 12709, 0.995039870543802, 1.00498485498223},
      {8, 500.0, 795, 1, 67926, 0.999205, 1.0007956325278595}};
    for (double[] row : due) {
      LeakCarousel x = worn((int) row[0], (int) row[2], (int) row[3]);
      Runs.setPressure(x, 0, row[1]);
      String call = "calibrate(0, " + (int) row[4] + ") of " + (int) row[0] + " heads";
      Check.due(call, x.calibrate(0, (int) row[4]), (int) row[3]);
      Check.dueNumber("gauge(0, 0) behind " + call, x.gauge(0, 0), row[5]);
      Check.dueNumber("gauge(0, 1) behind " + call, x.gauge(0, 1), row[6]);
    }
  }

  /** "The measured value is drop * volume / (n - 1) * gain. The value is this * factor." */
  private static void numbersValues() {
    double[][] due = {
      {4, 500.0, 65, 1, 66097, 379, 363, 189.30221624071473},
      {6, 1000.0, 584, 4, 22896, 158, 358, 157.86059785027518},
      {7, 333.25, 800, 5, 52232, 270, 877, 89.90827549919565},
      {8, 987.625, 446, 5, 23789, 384, 521, 378.4104617885862},
      {4, 1000.0, 680, 3, 79077, 15, 484, 14.999535128778614},
      {6, 1.0, 512, 5, 35912, 389, 526, 0.38842506033126983},
      {7, 987.625, 108, 4, 85609, 325, 289, 320.0770730465777},
      {8, 10.75, 453, 4, 22743, 289, 773, 3.103267626793626},
      {4, 1.0, 580, 4, 59452, 149, 334, 0.14893353982438548},
      {6, 500.0, 469, 4, 48714, 222, 775, 110.93642595542775},
      {7, 333.25, 353, 5, 55912, 94, 574, 31.312677900157986},
      {8, 10.75, 277, 2, 29141, 179, 241, 1.9199676595333686}};
    for (double[] row : due) {
      int heads = (int) row[0];
      int part = (int) row[3];
      LeakCarousel x = worn(heads, (int) row[2], part);
      Runs.setPressure(x, 0, row[1]);
      x.calibrate(0, (int) row[4]);
      x.add(false, (int) row[5], (int) row[6]);
      Check.dueNumber("foretold(" + part + ", 0) of " + heads + " heads", x.foretold(part, 0), row[7]);
      Check.dueNaN("value(" + part + ") before its test", x.value(part));
      Check.due("run", x.run(heads + 1), 1);
      Check.dueNumber("value(" + part + ") of " + heads + " heads", x.value(part), row[7]);
    }
  }

  // ---- STEPS

  /** The answer of each step; the part on each head; the row; the state of each part; its cause, or "-". */
  private static final String[] STORY = {
    "0 | 0 - - | 1 2 3 4 5 6 | 1000000 | -------",
    "0 | 0 1 - | 2 3 4 5 6 | 1100000 | -------",
    "0 | 0 1 3 | 2 4 5 6 | 1101000 | -------",
    "1 | 2 1 3 | 0 4 5 6 | 0111000 | -------",
    "1 | 2 0 3 | 1 4 5 6 | 1011000 | -------",
    "1 | 2 0 1 | 4 5 6 | 1112000 | -------",
    "1 | 4 0 1 | 5 6 | 1132100 | --1----",
    "1 | 4 5 1 | 0 6 | 0132110 | --1----",
    "1 | 4 5 - | 1 0 6 | 0032110 | --1----",
    "1 | 0 5 - | 4 1 6 | 1032010 | --1----",
    "1 | 0 4 - | 5 1 6 | 1032100 | --1----",
    "0 | 0 4 5 | 1 6 | 1032110 | --1----",
    "1 | 6 4 5 | 1 | 3032111 | 4-1----",
    "1 | 6 1 5 | 4 | 3132011 | 4-1----",
    "1 | 6 1 - | 5 4 | 3132001 | 4-1----",
    "1 | 4 1 - | 6 5 | 3132100 | 4-1----",
    "1 | 4 6 - | 5 | 3332101 | 441----",
    "0 | 4 6 - | 5 | 3332101 | 441----",
    "1 | - 6 - | 5 | 3332301 | 441-4--",
    "1 | - 5 - | 6 | 3332310 | 441-4--",
    "0 | - 5 - | 6 | 3332310 | 441-4--",
    "0 | 6 5 - |  | 3332311 | 441-4--",
    "1 | 6 - - |  | 3332331 | 441-44-",
    "0 | 6 - - |  | 3332331 | 441-44-",
    "1 | - - - |  | 3332333 | 441-444"};

  /** Three heads, one for valves, one for any part and one for pipes; the interval is soon over. */
  private static LeakCarousel atTheBeginning() {
    LeakCarousel x = Told.withHeads(3);
    x.setInterval(2);
    x.equip(0, 250, 1);
    x.equip(2, 1000, 2);
    Runs.read(x, "v50/100;p48/100;v900/1;p10/7;v45/90;p333/9;v0/1");
    return x;
  }

  private static LeakCarousel behindSteps(int steps) {
    LeakCarousel x = atTheBeginning();
    for (int step = 0; step < steps; step++) {
      x.run(1);
    }
    return x;
  }

  private static void stepsOneByOne() {
    for (int step = 0; step < STORY.length; step++) {
      LeakCarousel x = behindSteps(step);
      String told = x.run(1) + " | " + headsOf(x) + " | " + rowOf(x) + " | " + statesOf(x) + " | " + causesOf(x);
      Check.dueWords("what is told behind the step " + step, told, STORY[step]);
    }
    dueAtTheEnd(behindSteps(STORY.length));
  }

  private static void stepsInOneRun() {
    LeakCarousel x = atTheBeginning();
    Check.due("run(25)", x.run(25), 17);
    dueAtTheEnd(x);
  }

  private static void dueAtTheEnd(LeakCarousel x) {
    double[] values = {24.975009373436325, 23.99424000000181, 247.438125, 4.99642857142851, 22.466271086718923,
      163.41974999999994, 0.0};
    int[][] parts = {{3, 2, 0}, {3, 2, 1}, {1, 0, 0}, {1, 0, 2}, {3, 2, 0}, {3, 2, 1}, {3, 2, 0}};
    for (int part = 0; part < parts.length; part++) {
      Check.dueNumber("value(" + part + ")", x.value(part), values[part]);
      for (int what = 0; what < 3; what++) {
        Check.due("part(" + part + ", " + (4 + what) + ")", x.part(part, 4 + what), parts[part][what]);
      }
    }
    double[] gains = {0.9982513119532618, 1.0, 0.997002999};
    int[][] heads = {{250, 1, 7, -5, 7, 0, 4, 3, 2}, {0, 0, 7, -5, 7, 0, 2, 5, 0}, {1000, 2, 3, -5, 3, 1, 0, 2, 1}};
    for (int head = 0; head < heads.length; head++) {
      Check.dueNumber("gauge(" + head + ", 0)", x.gauge(head, 0), gains[head]);
      for (int what = 0; what < heads[head].length; what++) {
        Check.due("head(" + head + ", " + what + ")", x.head(head, what), heads[head][what]);
      }
    }
    int[] counts = {3, 25, 7, 0, 0, 1, 6, 17, 10, 2, 1, 0, 0, 5, 0};
    for (int what = 0; what < counts.length; what++) {
      Check.due("count(" + what + ")", x.count(what), counts[what]);
    }
  }

  private static String headsOf(LeakCarousel x) {
    List<String> told = new ArrayList<>();
    for (int head = 0; head < x.count(0); head++) {
      told.add(x.head(head, 3) == LeakCarousel.NONE ? "-" : Integer.toString(x.head(head, 3)));
    }
    return String.join(" ", told);
  }

  /** A place that no part has, or two have, is told by a sign that is never due. */
  private static String rowOf(LeakCarousel x) {
    String[] row = new String[x.count(3)];
    Arrays.fill(row, "?");
    for (int part = 0; part < x.count(2); part++) {
      int place = x.part(part, 8);
      if (place >= 0 && place < row.length) {
        row[place] = row[place].equals("?") ? Integer.toString(part) : "!";
      }
    }
    return String.join(" ", row);
  }

  private static String statesOf(LeakCarousel x) {
    StringBuilder told = new StringBuilder();
    for (int part = 0; part < x.count(2); part++) {
      told.append(x.part(part, 3));
    }
    return told.toString();
  }

  private static String causesOf(LeakCarousel x) {
    StringBuilder told = new StringBuilder();
    for (int part = 0; part < x.count(2); part++) {
      told.append(x.part(part, 7) == LeakCarousel.NONE ? "-" : Integer.toString(x.part(part, 7)));
    }
    return told.toString();
  }

  // ---- what changes, and nothing else

  /** Every name that is told, with its answer. */
  private static Map<String, String> answers(Told.Made made) {
    Map<String, String> answers = new TreeMap<>();
    for (String line : Told.state(made).split("\n")) {
      int end = line.indexOf(": ");
      answers.put(line.substring(0, end), line.substring(end + 2));
    }
    return answers;
  }

  /** What is due is "a name: its new answer", or a name alone, which changes to whatever else. */
  private static void dueChanges(String call, Told.Made made, Told.Call act, List<String> due) {
    Map<String, String> before = answers(made);
    Map<String, String> behind = answers(Told.behind(made, act));
    Set<String> names = new TreeSet<>(before.keySet());
    names.addAll(behind.keySet());
    Set<String> changed = new TreeSet<>();
    for (String name : names) {
      String answer = behind.getOrDefault(name, "nothing");
      if (!answer.equals(before.get(name))) {
        changed.add(due.contains(name) ? name : name + ": " + answer);
      }
    }
    Set<String> wanted = new TreeSet<>(due);
    Check.dueWords("what changes by " + call, String.join("\n", changed), String.join("\n", wanted));
  }

  private static List<String> these(String... lines) {
    return new ArrayList<>(List.of(lines));
  }

  /** The names of a call with each of these numbers in the place of the "#". */
  private static List<String> each(String name, int... numbers) {
    List<String> names = new ArrayList<>();
    for (int number : numbers) {
      names.add(name.replace("#", Integer.toString(number)));
    }
    return names;
  }

  private static List<String> foretoldOn(int head) {
    return each("foretold(#, " + head + ")", PARTS);
  }

  /** All that is told of a part on three heads. */
  private static List<String> partOf(int part) {
    List<String> names = each("part(" + part + ", #)", 0, 1, 2, 3, 4, 5, 6, 7, 8);
    names.addAll(each("fits(" + part + ", #)", HEADS));
    names.addAll(each("foretold(" + part + ", #)", HEADS));
    names.add("value(" + part + ")");
    return names;
  }

  /** A new part waits behind the part 4, or behind another new one. */
  private static List<String> newPart(int part, int pipe, int leak, int volume, int place) {
    int[] told = {pipe, leak, volume, Runs.WAITING, 0, 0, -5, -5, place};
    List<String> lines = new ArrayList<>();
    for (int what = 0; what < told.length; what++) {
      lines.add("part(" + part + ", " + what + "): " + told[what]);
    }
    // Told.busy() has a head for valves, one for any part and one for pipes
    int[] taken = {1 - pipe, 1, pipe};
    for (int head : HEADS) {
      lines.add("fits(" + part + ", " + head + "): " + taken[head]);
    }
    lines.addAll(each("foretold(" + part + ", #)", HEADS));
    lines.add("value(" + part + "): NaN");
    return lines;
  }

  /** The test of the part 0 ends on the head 1: its second retest. The part 4 comes to this head. */
  private static List<String> changesByAStep() {
    List<String> due = these("count(1): 8", "count(7): 4", "count(8): 2",
        "head(0, 8): 1", "head(1, 8): 2", "head(2, 8): 0",
        "head(1, 2): 2", "head(1, 3): 4", "head(1, 4): 2", "head(1, 7): 1",
        "gauge(1, 3): 400.0", "trace(1, 1): NaN", "trace(1, 2): NaN", "display(1): 1137180672",
        "gauge(0, 3): 399.16", "trace(0, 1): 399.16", "display(0): 1137153147");
    due.addAll(these("part(0, 3): 0", "part(0, 4): 2", "part(0, 5): 2", "part(0, 6): 1", "part(0, 8): 0",
        "part(4, 3): 1", "part(4, 8): -5"));
    return due;
  }

  private static void stepChangesThis() {
    dueChanges("run(1)", Told::busy, x -> x.run(1), changesByAStep());
    // nothing is on a head and nothing waits: only the station goes on
    List<String> due = these("count(1): 1", "head(0, 8): 3", "head(1, 8): 0", "head(2, 8): 1", "head(3, 8): 2");
    dueChanges("run(1) of nothing", Told::fresh, x -> x.run(1), due);
  }

  /** "with so many heads as at first, the steps at 0, without parts, all that was counted at 0; the settings stay" */
  private static void promise2BuildChangesThis() {
    List<String> due = new ArrayList<>();
    for (int what : new int[] {1, 2, 3, 4, 5, 6, 7, 8, 10}) {
      due.add("count(" + what + "): 0");
    }
    due.addAll(these("head(0, 0): 0", "head(0, 1): 0", "head(0, 2): 0", "head(0, 3): -5", "head(0, 4): 0",
        "head(0, 5): 0", "head(0, 7): 0", "head(0, 8): 0", "gauge(0, 0): 1.0", "gauge(0, 2): NaN",
        "gauge(0, 3): NaN", "trace(0, 0): NaN", "display(0): -5"));
    due.addAll(these("head(1, 2): 0", "head(1, 3): -5", "head(1, 4): 0", "head(1, 6): 0", "head(1, 8): 1",
        "gauge(1, 2): NaN", "gauge(1, 3): NaN", "display(1): -5"));
    due.addAll(each("trace(1, #): NaN", STEPS));
    due.addAll(these("head(2, 0): 0", "head(2, 1): 0", "head(2, 8): 2"));
    for (int part : PARTS) {
      due.addAll(partOf(part));
    }
    dueChanges("build(3)", Told::busy, x -> x.build(3), due);
    dueChanges("build(4) of a new object", Told::fresh, x -> x.build(4), these());
  }

  /** A limit judges no part anew, and the filling pressure is none of a part that is on a head. */
  private static void promise3SetPressureChangesThis() {
    long bits = Double.doubleToRawLongBits(250.0);
    List<String> due = these("pressureBits(0): " + bits);
    for (int head : HEADS) {
      due.addAll(foretoldOn(head));
    }
    dueChanges("setPressure(0, ..)", Told::busy, x -> x.setPressure(0, bits), due);
    for (int what = 1; what <= 2; what++) {
      int limit = what;
      List<String> one = these("pressureBits(" + what + "): " + bits);
      dueChanges("setPressure(" + what + ", ..)", Told::busy, x -> x.setPressure(limit, bits), one);
    }
  }

  private static void promise4SetIntervalChangesThis() {
    dueChanges("setInterval(1)", Told::busy, x -> x.setInterval(1), these("count(9): 1"));
  }

  /** "Sets the wear and the fixture of a head; a part that is on it stays there." */
  private static void promise5EquipChangesThis() {
    dueChanges("equip(0, 3, 1)", Told::busy, x -> x.equip(0, 3, 1), these("head(0, 0): 3"));
    dueChanges("equip(0, 500, 0)", Told::busy, x -> x.equip(0, 500, 0), these("head(0, 1): 0"));
    List<String> due = these("head(0, 0): 1000", "head(0, 1): 2");
    due.addAll(each("fits(#, 0): 0", PARTS));
    dueChanges("equip(0, 1000, 2)", Told::busy, x -> x.equip(0, 1000, 2), due);
    dueChanges("equip of a calibrated head", DocumentTest::calibrated, x -> x.equip(0, 3, 1), these("head(0, 0): 3"));
  }

  private static LeakCarousel cleared() {
    LeakCarousel x = Told.busy();
    Runs.perform(x, "clear");
    return x;
  }

  private static LeakCarousel calibrated() {
    LeakCarousel x = cleared();
    x.calibrate(0, 300);
    return x;
  }

  /** "The factor of the head becomes ... The number of tests since it was calibrated becomes 0." */
  private static void promise6CalibrateChangesThis() {
    List<String> due = these("head(0, 2): 0", "gauge(0, 1)");
    due.addAll(foretoldOn(0));
    dueChanges("calibrate(0, 300)", DocumentTest::cleared, x -> x.calibrate(0, 300), due);
    dueChanges("calibrate of an unworn head", DocumentTest::cleared, x -> x.calibrate(1, 5), these("head(1, 2): 0"));
    dueChanges("calibrate once more", DocumentTest::calibrated, x -> x.calibrate(0, 300), these());
  }

  private static void promise7AddChangesThis() {
    List<String> due = these("count(2): 6", "count(3): 2");
    due.addAll(newPart(5, 1, 7, 8, 1));
    dueChanges("add(true, 7, 8)", Told::busy, x -> x.add(true, 7, 8), due);
  }

  /** "FULL if there are 60", in whatever state they are; "A call that returns an error ... changes nothing." */
  private static void promise7FullRecordsNothing() {
    Told.Made made = () -> {
      LeakCarousel x = Told.full();
      x.run(8);
      x.keep();
      return x;
    };
    Told.dueRefused("add of the 61st part", made, x -> x.add(false, 1, 1), LeakCarousel.FULL);
    Told.dueRefused("readParts() of the 61st part", made, LeakCarousel::readParts, LeakCarousel.FULL);
  }

  private static void promise9To10TextChangesThis() {
    dueChanges("type", Told::busy, x -> x.type('1'), these());
    dueChanges("clearText()", Told::busy, LeakCarousel::clearText, these());
  }

  private static void promise11ReadPartsChangesThis() {
    List<String> due = these("count(2): 7", "count(3): 3");
    due.addAll(newPart(5, 1, 0, 20, 1));
    due.addAll(newPart(6, 0, 300, 4, 2));
    Told.Made made = Told.written(Told::busy, "p0/20;v300/4");
    dueChanges("readParts()", made, LeakCarousel::readParts, due);
  }

  /** "stop rejects all parts that wait, for the cause 5" */
  private static void promise12StopChangesThis() {
    List<String> due = these("count(3): 0", "count(6): 2", "count(14): 1",
        "part(4, 3): 3", "part(4, 7): 5", "part(4, 8): -5");
    dueChanges("stop", Told.written(Told::busy, "stop"), LeakCarousel::perform, due);
    // a part that was tested keeps what its tests told
    Told.Made made = Told.written(DocumentTest::cleared, "stop");
    List<String> three = these("count(3): 0", "count(6): 4", "count(14): 3");
    for (int part : new int[] {0, 3, 4}) {
      three.addAll(these("part(" + part + ", 3): 3", "part(" + part + ", 7): 5", "part(" + part + ", 8): -5"));
    }
    dueChanges("stop of three", made, LeakCarousel::perform, three);
  }

  /** "clear takes all parts from the heads, without a test (they come to the front of the row ...)" */
  private static void promise12ClearChangesThis() {
    List<String> due = these("count(3): 3", "count(4): 0", "head(0, 3): -5", "head(1, 3): -5",
        "gauge(0, 2): NaN", "gauge(0, 3): NaN", "gauge(1, 2): NaN", "gauge(1, 3): NaN", "trace(0, 0): NaN",
        "display(0): -5", "display(1): -5");
    due.addAll(each("trace(1, #): NaN", STEPS));
    due.addAll(these("part(3, 3): 0", "part(3, 8): 0", "part(0, 3): 0", "part(0, 8): 1", "part(4, 8): 2"));
    dueChanges("clear", Told.written(Told::busy, "clear"), LeakCarousel::perform, due);
  }

  /** "step does a step; turn does as many steps as there are heads" */
  private static void promise12StepAndTurnAreSteps() {
    dueChanges("step", Told.written(Told::busy, "step"), LeakCarousel::perform, changesByAStep());
    String steps = Told.state(Told.behind(Told::busy, x -> x.run(3)));
    Told.Made turned = Told.behind(Told.written(Told::busy, "turn"), LeakCarousel::perform);
    Check.dueWords("what is told behind turn", Told.state(turned), steps);
    steps = Told.state(Told.behind(Told::worn, x -> x.run(8)));
    turned = Told.behind(Told.written(Told::worn, "turn"), LeakCarousel::perform);
    Check.dueWords("what is told behind turn of eight heads", Told.state(turned), steps);
  }

  /** keep tells nothing new; undo and restore bring the state back, whatever came between. */
  private static void promise13To15HistoryChangesThis() {
    dueChanges("keep()", Told::busy, LeakCarousel::keep, these());
    dueChanges("restore() at once", Told.behind(Told::busy, LeakCarousel::keep), LeakCarousel::restore, these());
    Told.Call[] acts = {x -> x.build(8), x -> x.setPressure(0, Double.doubleToRawLongBits(7.0)),
      x -> x.setPressure(1, 0L), x -> x.setPressure(2, 1L), x -> x.setInterval(99), x -> x.equip(0, 1, 2),
      x -> x.calibrate(2, 9), x -> x.add(true, 9, 9), x -> x.run(40), x -> Runs.read(x, "v1/2;p3/4"),
      x -> Runs.perform(x, "step"), x -> Runs.perform(x, "turn"), x -> Runs.perform(x, "stop"),
      x -> Runs.perform(x, "clear"), LeakCarousel::restore};
    for (int i = 0; i < acts.length; i++) {
      Told.Made acted = Told.behind(Told::busy, acts[i]);
      String name = " behind the act " + i;
      Check.dueWords("undo()" + name, Told.state(Told.behindUndos(acted, 1)), Told.state(Told::busy));
      Told.Made kept = Told.behind(Told.behind(Told::busy, LeakCarousel::keep), acts[i]);
      String restored = Told.state(Told.behind(kept, LeakCarousel::restore));
      Check.dueWords("restore()" + name, restored, Told.state(Told::busy));
    }
  }

  /** "the value of the latest test": neither the gain nor the factor nor the pressure of later calls is in it. */
  private static void promise21ValueStays() {
    LeakCarousel x = cleared();
    double value = x.value(2);
    Check.dueNumber("value(2)", value, 7.988004000000132);
    x.calibrate(0, 300);
    x.equip(0, 1, 2);
    Runs.setPressure(x, 0, 1.0);
    x.run(12);
    Check.due("part(2, 4)", x.part(2, 4), 1);
    Check.dueNumber("value(2) behind other calls", x.value(2), value);
  }
}
