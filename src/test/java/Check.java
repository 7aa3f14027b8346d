/** Counts the answers that are not as due, and ends a test with exit code 1 if there was one. */
final class Check {
  private int answers;
  private int wrong;
  private String about = "";

  /** What the answers that follow are about; it is told ahead of each that is not as due. */
  void about(String words) {
    about = words;
  }

  int answers() {
    return answers;
  }

  void due(String call, long got, long want) {
    answers++;
    if (got != want) {
      report(call + " answered " + got + ", due is " + want);
    }
  }

  void dueText(String call, String got, String want) {
    answers++;
    if (!got.equals(want)) {
      reportFirstDifference(call, got.split("\n"), want.split("\n"));
    }
  }

  private void reportFirstDifference(String call, String[] got, String[] want) {
    int line = 0;
    while (line < got.length && line < want.length && got[line].equals(want[line])) {
      line++;
    }
    String is = line < got.length ? got[line] : "at its end";
    String due = line < want.length ? want[line] : "the end";
    report(call + ", line " + line + ", is " + is + ", due is " + due);
  }

  void dueTrue(String what, boolean holds) {
    answers++;
    if (!holds) {
      report("not so: " + what);
    }
  }

  private void report(String line) {
    wrong++;
    if (wrong <= 50) {
      System.out.println(about + line);
    }
  }

  void end() {
    System.out.println(answers + " answers, " + wrong + " not as due");
    if (wrong != 0) {
      System.exit(1);
    }
  }
}
