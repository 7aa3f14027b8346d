import java.util.Arrays;

/**
 * All promises: long runs of calls, the same ones each time, on the program and on the Model. Every
 * answer is compared; the runs must also have met what is rare (old maps, marked maps, full caches).
 */
public final class ModelTest {
  private static final int RUNS = 800;
  /** Beyond these calls a run only ends what it has begun, which leaves some calls to look with. */
  private static final int CALLS = 420;
  private static final String[] NAMES = {
      "addServer", "addSite", "addRouter", "setSlot", "emptySlot", "register", "unregister",
      "setMapLife", "send", "pass", "forget", "append", "clearText", "faultPosition", "run", "undo",
      "save", "restore", "server", "site", "slot", "router", "map", "answer", "way", "endingNext",
      "total", "wouldReach", "wouldAsk", "share"};
  private static final int[] OFTEN = {
      3, 5, 2, 20, 5, 20, 4, 3, 70, 12, 2, 7, 2, 3, 3, 5, 2, 2, 5, 10, 5, 10, 15, 10, 5, 6, 20, 10,
      10, 4};
  private static final int[] FIRST_CALLS = {0, 1, 1, 1, 1, 1, 2, 7, 3, 3, 3, 3, 3, 5, 5, 5, 5};
  private static final int[] WILD = {
      Integer.MIN_VALUE, Integer.MAX_VALUE, -1, -2, 8, 10, 32, 100, 256, 257, 1 << 30, 9999, -256};

  private static final Check check = new Check();
  private static long seed = 20261119L;
  /** Most names of a run lie in one region, so that its blocks meet. */
  private static int region;
  private static int calls;
  private static int oldMaps;
  private static int marked;
  private static int fullCaches;
  private static int proxied;
  private static int longRuns;
  private static int lateHours;

  public static void main(String[] args) {
    for (int run = 0; run < RUNS; run++) {
      compareRun(run);
    }
    check.dueTrue("old maps were met: " + oldMaps, oldMaps > 500);
    check.dueTrue("marked maps were met: " + marked, marked > 500);
    check.dueTrue("full caches were met: " + fullCaches, fullCaches > 100);
    check.dueTrue("proxies were met: " + proxied, proxied > 500);
    check.dueTrue("runs of several acts were met: " + longRuns, longRuns > 100);
    check.dueTrue("hour 9900 was met: " + lateHours, lateHours > 5);
    check.end();
  }

  private static int below(int bound) {
    seed = seed * 6364136223846793005L + 1442695040888963407L;
    return (int) ((seed >>> 33) % bound);
  }

  private static void compareRun(int run) {
    Watched x = new Watched();
    Face model = new Face(new Model());
    region = 32 * below(8);
    boolean isLate = run % 20 == 19;
    calls = 0;
    for (int n = 0; n < CALLS && calls < CALLS; n++) {
      int call = pickCall(n, isLate);
      int[] a = pickArguments(call, model.parameters(NAMES[call]), isLate);
      if (n % 50 == 49) {
        count(model);
      }
      if (call == 11 && below(4) > 0) {
        appendAct(x, model);
      } else {
        compare(x, model, call, a);
      }
      if (call == 15 && below(8) == 0) {
        undoAll(x, model);
      }
    }
    undoAll(x, model);
    if (run % 10 == 0) {
      check.dueText("looks of run " + run, Looks.ofAll(x), Looks.ofAll(model));
    }
    oldMaps += model.call("total", 9);
    proxied += model.call("total", 8);
    lateHours += model.call("total", 0) > 9900 ? 1 : 0;
  }

  private static void undoAll(Watched x, Face model) {
    for (int n = 0; n < 6; n++) {
      compare(x, model, 15, new int[0]);
      for (int router = 0; router < 2; router++) {
        compare(x, model, 21, new int[] {router, below(6)});
        compare(x, model, 22, new int[] {router, below(3), below(5)});
      }
      compare(x, model, 26, new int[] {below(11)});
    }
  }

  private static void compare(Watched x, Face model, int call, int[] a) {
    calls++;
    int want = model.call(NAMES[call], a);
    int got = x.call(NAMES[call], a);
    check.due(NAMES[call] + Arrays.toString(a), got, want);
    longRuns += call == 14 && got > 2 ? 1 : 0;
  }

  private static void count(Face model) {
    for (int router = 0; router < 4; router++) {
      fullCaches += model.call("router", router, 0) == 5 ? 1 : 0;
      for (int place = 0; place < 5; place++) {
        marked += model.call("map", router, place, 3) == 1 ? 1 : 0;
      }
    }
  }

  private static int pickCall(int n, boolean isLate) {
    if (n < 60 && below(4) > 0) {
      return FIRST_CALLS[below(FIRST_CALLS.length)];
    }
    if (isLate && n < 320) {
      return below(3) > 0 ? 9 : 5;
    }
    int sum = Arrays.stream(OFTEN).sum();
    int mark = below(sum);
    int call = 0;
    while (mark >= OFTEN[call]) {
      mark -= OFTEN[call];
      call++;
    }
    return call;
  }

  private static int[] pickArguments(int call, int length, boolean isLate) {
    int[] a = new int[length];
    for (int n = 0; n < a.length; n++) {
      a[n] = below(60) == 0 ? WILD[below(WILD.length)] : pickArgument(call, n);
    }
    if (call <= 1 && a.length == 3 && below(8) > 0) {
      int at = call == 0 ? 1 : 0;
      a[at + 1] = 1 << (below(3) == 0 ? below(9) : 3 + below(4));
      a[at] = (region + below(64)) % 256 / a[at + 1] * a[at + 1];
    }
    if (call == 9 && isLate) {
      a[0] = 90 + below(10);
    }
    return a;
  }

  /** The arguments, as the document names them, mostly in their range or one beside it. */
  private static int pickArgument(int call, int n) {
    switch (NAMES[call]) {
      case "addServer": return n == 0 ? below(1 + below(8)) : below(256);
      case "addSite": return n == 2 ? (below(3) == 0 ? below(50) : 20 + below(29)) : below(256);
      case "setSlot": return new int[] {below(8), below(3), below(6), below(3), 1 + below(9)}[n];
      case "emptySlot": return n == 0 ? below(8) : below(3);
      case "register":
      case "unregister": return below(8);
      case "setMapLife": return below(4) == 0 ? below(102) : 15 + below(60);
      case "send": return letterArgument(n);
      case "pass": return below(20) == 0 ? below(100) : 1 + below(3);
      case "append": return 30 + below(99);
      case "save":
      case "restore": return below(3) - (below(9) == 0 ? 1 : 0);
      case "server": return n == 0 ? below(9) : below(7);
      case "site": return n == 0 ? below(8) : below(9);
      case "slot": return n == 0 ? below(8) : below(4);
      case "router": return n == 0 ? below(3) : below(7);
      case "map": return new int[] {below(3), below(6), below(6)}[n];
      case "answer": return letterArgument(1);
      case "way": return n == 0 ? letterArgument(1) : below(3);
      case "endingNext": return below(8) - (below(9) == 0 ? 1 : 0);
      case "total": return below(15);
      case "wouldReach": return n < 3 ? letterArgument(n) : below(3) == 0 ? below(101) : below(10);
      case "wouldAsk": return letterArgument(n);
      case "share": return n == 0 ? below(8) : below(8);
      default: return below(3);
    }
  }

  private static int letterArgument(int n) {
    if (n == 0) {
      return below(10) > 0 ? below(2) : below(5);
    }
    return n == 2 ? below(100) : below(5) > 0 ? (region + below(64)) % 256 : below(256);
  }

  /** Appends a whole act, now and then with a fault in it. */
  private static void appendAct(Watched x, Face model) {
    if (model.call("faultPosition") >= 0 && below(2) == 0) {
      compare(x, model, 12, new int[0]);
    }
    String act;
    switch (below(7)) {
      case 0:
        act = "r" + below(6) + ";";
        break;
      case 1:
        act = "u" + below(9) + ";";
        break;
      case 2:
        act = "t" + (below(10) == 0 ? below(120) : 1 + below(3)) + ";";
        break;
      default:
        act = "s" + letterArgument(0) % 4 + "n" + letterArgument(1) + "f" + letterArgument(2) + ";";
        break;
    }
    if (below(20) == 0) {
      int at = below(act.length());
      act = act.substring(0, at) + "0159snft;".charAt(below(9)) + act.substring(at + below(2));
    }
    for (int n = 0; n < act.length(); n++) {
      compare(x, model, 11, new int[] {act.charAt(n)});
    }
    compare(x, model, below(3) == 0 ? 14 : 13, new int[0]);
  }
}
