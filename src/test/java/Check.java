/** Counts the answers that are not as due, and ends a test with exit code 1 if there was one. */
final class Check {
  private int answers;
  private int wrong;

  void due(String call, long got, long want) {
    answers++;
    if (got != want) {
      report(call + " answered " + got + ", due is " + want);
    }
  }

  void dueText(String call, String got, String want) {
    answers++;
    if (!got.equals(want)) {
      report(call + " is " + got + ", due is " + want);
    }
  }

  void dueTrue(String what, boolean holds) {
    answers++;
    if (!holds) {
      report("not so: " + what);
    }
  }

  private void report(String line) {
    wrong++;
    if (wrong <= 50) {
      System.out.println(line);
    }
  }

  void end() {
    System.out.println(answers + " answers, " + wrong + " not as due");
    if (wrong != 0) {
      System.exit(1);
    }
  }
}
