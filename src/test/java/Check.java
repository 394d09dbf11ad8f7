/** Counts the answers that are as due, and prints those that are not. */
final class Check {
  private static final int MOST_PRINTED = 40;
  private static long right = 0;
  private static long wrong = 0;

  private Check() {
  }

  static void due(String call, long got, long due) {
    settle(got == due, call, Long.toString(got), Long.toString(due));
  }

  /** By the bits, so that 0.0 and -0.0 differ; a NaN is as due as any other. */
  static void dueNumber(String call, double got, double due) {
    boolean same = Double.doubleToLongBits(got) == Double.doubleToLongBits(due);
    settle(same, call, Double.toString(got), Double.toString(due));
  }

  static void dueNaN(String call, double got) {
    dueNumber(call, got, Double.NaN);
  }

  /** Two tellings of many lines; the first line that differs is printed. */
  static void dueWords(String what, String got, String due) {
    String[] gotLines = got.split("\n");
    String[] dueLines = due.split("\n");
    int at = 0;
    while (at < gotLines.length && at < dueLines.length && gotLines[at].equals(dueLines[at])) {
      at++;
    }
    String gotLine = at < gotLines.length ? gotLines[at] : "nothing more";
    String dueLine = at < dueLines.length ? dueLines[at] : "nothing more";
    settle(got.equals(due), what, "\"" + gotLine + "\"", "\"" + dueLine + "\"");
  }

  static void dueTrue(String what, boolean holds) {
    settle(holds, what, "false", "true");
  }

  static boolean allRight() {
    return wrong == 0;
  }

  private static void settle(boolean same, String call, String got, String due) {
    if (same) {
      right++;
      return;
    }
    wrong++;
    if (wrong <= MOST_PRINTED) {
      StackTraceElement[] stack = new Throwable().getStackTrace();
      System.out.println(call + " answered " + got + ", due is " + due + " " + placeIn(stack));
    }
  }

  private static String placeIn(StackTraceElement[] stack) {
    for (StackTraceElement element : stack) {
      String name = element.getClassName();
      if (!name.equals("Check") && !name.equals("Told")) {
        return "(" + element.getMethodName() + ", line " + element.getLineNumber() + ")";
      }
    }
    return "";
  }

  static void finish() {
    System.out.println(right + " answers as due, " + wrong + " not");
    if (wrong != 0 || right == 0) {
      System.exit(1);
    }
  }
}
