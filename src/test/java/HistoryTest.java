/** Promises 17 (undo), 18 (save) and 19 (restore), and which calls are recorded. */
public final class HistoryTest {
  private static final Check check = new Check();

  public static void main(String[] args) {
    undoing();
    fiveStates();
    errorsLeaveTheOldestState();
    recordedCalls();
    callsThatAreNotRecorded();
    saving();
    savesAndUndo();
    savesAreCopies();
    worldsInTurn();
    rowsAreMadeAnew();
    check.end();
  }

  private static Watched withAll() {
    Watched x = new Watched();
    x.addServer(0, 0, 128);
    x.addServer(1, 0, 64);
    x.addSite(0, 128, 20);
    x.addSite(0, 64, 30);
    x.setSlot(0, 0, 1, 0, 1);
    x.setSlot(0, 1, 2, 0, 2);
    x.setSlot(1, 2, 3, 1, 9);
    x.register(0);
    x.register(1);
    x.addRouter();
    x.addRouter();
    x.send(0, 0, 0);
    x.send(0, 100, 1);
    x.send(1, 100, 2);
    return x;
  }

  private static void undoing() {
    Watched x = new Watched();
    check.due("no state", x.undo(), -3);
    x.pass(1);
    x.pass(2);
    check.due("undo()", x.undo(), 1);
    check.due("hour", x.total(0), 1);
    check.due("undo() again", x.undo(), 0);
    check.due("hour then", x.total(0), 0);
    check.due("no state is left", x.undo(), -3);
    x.pass(5);
    check.due("states", x.total(11), 1);
    x.append('t');
    check.due("undo() with a text", x.undo(), 0);
    check.due("the text stays", x.total(12), 1);
  }

  private static void fiveStates() {
    Watched x = new Watched();
    for (int n = 1; n <= 13; n++) {
      x.pass(n);
      check.due("states", x.total(11), Math.min(n, 5));
    }
    int hour = x.total(0);
    for (int left = 4; left >= 0; left--) {
      check.due("undo()", x.undo(), left);
      hour -= 9 + left;
      check.due("hour", x.total(0), hour);
    }
    check.due("the older ones are dropped", x.undo(), -3);
    check.due("hour at last", x.total(0), 36);
  }

  private static void errorsLeaveTheOldestState() {
    for (int call = 0; call <= 12; call++) {
      Watched x = new Watched();
      for (int n = 1; n <= 7; n++) {
        x.pass(n);
      }
      check.dueTrue("an error of call " + call, callWithError(x, call) < 0);
      for (int left = 4; left >= 0; left--) {
        check.due("undo() after an error of call " + call, x.undo(), left);
      }
      check.due("hour of the oldest state", x.total(0), 1 + 2);
    }
  }

  private static int callWithError(Watched x, int call) {
    switch (call) {
      case 0:
        return x.addServer(9, 0, 1);
      case 1:
        return x.addSite(0, 3, 1);
      case 2:
        return x.restore(0);
      case 3:
        return x.setSlot(9, 0, 0, 0, 1);
      case 4:
        return x.emptySlot(9, 2);
      case 5:
        return x.register(9);
      case 6:
        return x.unregister(9);
      case 7:
        return x.setMapLife(0);
      case 8:
        return x.send(9, 0, 0);
      case 9:
        return x.pass(0);
      case 10:
        return x.forget(9);
      case 11:
        return x.restore(2);
      default:
        x.append('x');
        return x.run();
    }
  }

  /** Each recorded call is undone on an object that has something of everything. */
  private static void recordedCalls() {
    for (int call = 0; call <= 11; call++) {
      Watched x = withAll();
      x.setMapLife(20 + call);
      String before = Looks.ofState(x);
      check.due("recorded call " + call, recordedCall(x, call) >= 0 ? 0 : 1, 0);
      check.due("states after it", x.total(11), 5);
      check.due("undo of it", x.undo(), 4);
      check.dueText("state ahead of call " + call, Looks.ofState(x), before);
    }
  }

  private static int recordedCall(Watched x, int call) {
    switch (call) {
      case 0:
        return x.addServer(0, 128, 128);
      case 1:
        return x.addSite(128, 128, 5);
      case 2:
        return x.addRouter();
      case 3:
        return x.setSlot(0, 0, 30, 0, 1);
      case 4:
        return x.emptySlot(1, 2);
      case 5:
        return x.register(0);
      case 6:
        return x.unregister(0);
      case 7:
        return x.setMapLife(3);
      case 8:
        return x.send(0, 100, 0);
      case 9:
        return x.pass(99);
      case 10:
        return x.forget(0);
      default:
        return x.run();
    }
  }

  private static void callsThatAreNotRecorded() {
    Watched x = withAll();
    for (int n = 0; n < 3; n++) {
      x.undo();
    }
    x.append('r');
    x.clearText();
    x.save(0);
    x.faultPosition();
    x.wouldReach(0, 0, 0, 5);
    x.wouldAsk(0, 0, 0);
    x.share(0, 0);
    for (int call = 0; call <= 12; call++) {
      callWithError(x, call == 2 ? 1 : call);
    }
    check.due("states", x.total(11), 2);
    check.due("the same value", x.setMapLife(10), 10);
    check.due("it is recorded also then", x.total(11), 3);
  }

  private static void saving() {
    Watched x = new Watched();
    check.due("save(-1)", x.save(-1), -1);
    check.due("save(2)", x.save(2), -1);
    check.due("save(most)", x.save(Integer.MAX_VALUE), -1);
    check.due("restore(-1)", x.restore(-1), -1);
    check.due("restore(2)", x.restore(2), -1);
    check.due("restore(least)", x.restore(Integer.MIN_VALUE), -1);
    check.due("restore of an empty slot", x.restore(0), -3);
    check.due("save(0)", x.save(0), 0);
    check.due("the other slot is empty", x.restore(1), -3);
    x.pass(7);
    check.due("save(1)", x.save(1), 7);
    x.pass(5);
    check.due("restore(0)", x.restore(0), 0);
    check.due("hour", x.total(0), 0);
    check.due("states", x.total(11), 3);
    check.due("restore(1)", x.restore(1), 7);
    check.due("restore(1) again", x.restore(1), 7);
    check.due("restore is recorded", x.total(11), 5);
    x.pass(1);
    check.due("in place of what it holds", x.save(0), 8);
    check.due("restore(0) then", x.restore(0), 8);
  }

  private static void savesAndUndo() {
    Watched x = withAll();
    String before = Looks.ofState(x);
    x.save(0);
    check.due("undo()", x.undo(), 4);
    check.due("restore(0)", x.restore(0), 0);
    check.dueText("restored", Looks.ofState(x), before);
    check.due("states", x.total(11), 5);
    x.forget(0);
    x.forget(1);
    String forgotten = Looks.ofState(x);
    x.append('t');
    x.restore(0);
    check.due("the text stays", x.total(12), 1);
    check.due("undo of restore()", x.undo(), 4);
    check.dueText("the state ahead of it", Looks.ofState(x), forgotten);
    while (x.total(11) > 0) {
      x.undo();
    }
    check.due("a slot outlasts undo()", x.restore(0), 0);
    check.dueText("restored again", Looks.ofState(x), before);
  }

  private static void savesAreCopies() {
    Watched x = withAll();
    x.save(0);
    x.save(1);
    String before = Looks.ofState(x);
    x.restore(0);
    x.send(0, 0, 0);
    x.setSlot(0, 0, 31, 9, 9);
    x.addSite(200, 8, 5);
    x.addServer(0, 128, 64);
    x.addRouter();
    x.pass(50);
    x.send(1, 100, 0);
    x.restore(0);
    check.dueText("slot 0 is as it was", Looks.ofState(x), before);
    x.send(1, 0, 0);
    x.restore(1);
    check.dueText("slot 1 is as it was", Looks.ofState(x), before);
  }

  /** Two worlds that differ in everything take turns, so that nothing of one stays in the other. */
  private static void worldsInTurn() {
    Watched x = new Watched();
    x.save(0);
    x.addServer(0, 0, 128);
    x.addServer(1, 64, 64);
    x.addServer(2, 64, 8);
    x.addSite(64, 64, 20);
    x.addSite(64, 32, 30);
    buildRouters(x, 80);
    x.save(1);
    String first = Looks.ofState(x);
    x.restore(0);
    x.pass(4);
    x.addServer(0, 128, 128);
    x.addServer(0, 64, 32);
    x.addServer(2, 64, 1);
    x.addSite(64, 32, 7);
    x.addSite(0, 256, 8);
    x.addSite(64, 1, 9);
    buildRouters(x, 96);
    x.setMapLife(30);
    x.save(0);
    String second = Looks.ofState(x);
    for (int n = 0; n < 3; n++) {
      x.restore(1);
      check.dueText("the first world", Looks.ofState(x), first);
      check.due("a letter in it", x.send(0, 80, 0), 9);
      x.restore(0);
      check.dueText("the second world", Looks.ofState(x), second);
      x.undo();
      x.undo();
      check.dueText("the first world by undo()", Looks.ofState(x), first);
      x.restore(0);
    }
  }

  /** Gives each site slots and a registration, and leaves a marked and an old map behind. */
  private static void buildRouters(Watched x, int name) {
    for (int site = 0; site < x.total(2); site++) {
      x.setSlot(site, site, 9, site, 2 + site);
      x.register(site);
    }
    x.addRouter();
    x.addRouter();
    x.send(0, name, 0);
    x.send(1, name + 1, 0);
    int site = x.map(0, 0, 0);
    x.setSlot(site, (site + 1) % 3, 8, 7, 3);
    x.send(1, name + 1, 0);
    x.unregister(site);
    x.send(0, name, 0);
    x.send(0, 255, 0);
    x.register(site);
    check.due("a marked map", x.map(1, 0, 3), 1);
    check.due("an old map", x.router(0, 5), 1);
  }

  private static void rowsAreMadeAnew() {
    Watched x = new Watched();
    x.save(0);
    x.addServer(0, 0, 128);
    x.addSite(0, 128, 20);
    x.addRouter();
    for (int slot = 0; slot < 3; slot++) {
      x.setSlot(0, slot, 9, 8, 7);
    }
    x.register(0);
    x.send(0, 0, 0);
    x.setSlot(0, 0, 7, 6, 5);
    x.unregister(0);
    x.send(0, 0, 0);
    x.register(0);
    x.send(0, 0, 0);
    x.restore(0);
    check.due("addServer()", x.addServer(0, 128, 128), 1);
    check.due("addSite()", x.addSite(0, 256, 5), 0);
    check.due("addRouter()", x.addRouter(), 0);
    Watched fresh = new Watched();
    fresh.addServer(0, 128, 128);
    fresh.addSite(0, 256, 5);
    fresh.addRouter();
    check.dueText("as in a new object", Looks.ofState(x), Looks.ofState(fresh));
  }
}
