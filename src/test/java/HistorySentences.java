import java.util.function.ToIntFunction;

/** The history, the slots of save() and the totals: promises 17, 18, 19 and 28. */
final class HistorySentences {
  private HistorySentences() {
  }

  static void tests(Sentences s) {
    s.section("Terms");
    states(s);
    recordedCalls(s);
    s.section("Promise 17");
    undo(s);
    s.section("Promise 18");
    save(s);
    s.section("Promise 19");
    restore(s);
    s.section("Promise 28");
    totals(s);
    totalsOfRouters(s);
    otherTotals(s);
  }

  private static void states(Sentences s) {
    s.test("History. At most 5 states are kept;", c -> {
      Watched x = new Watched();
      for (int n = 1; n <= 5; n++) {
        x.pass(1);
        c.due("states", x.total(11), n);
      }
      for (int n = 6; n <= 20; n++) {
        x.pass(1);
        c.due("no more states", x.total(11), 5);
      }
      for (int left = 4; left >= 0; left--) {
        c.due("undo()", x.undo(), left);
      }
      c.due("a sixth undo()", x.undo(), -3);
    });
    s.test("a state is all but the text, the history and the slots of save().", c -> {
      Watched x = Given.world();
      c.due("a marked map", x.map(0, 0, 3), 1);
      c.due("a map that is not marked", x.map(0, 1, 3), 0);
      c.due("old maps", x.total(9), 1);
      String before = Looks.ofState(x);
      x.save(0);
      x.pass(9);
      x.setMapLife(77);
      x.addServer(0, 128, 128);
      Given.text(x, "t1;x");
      x.save(1);
      x.restore(0);
      c.dueText("all of the state came back", Looks.ofState(x), before);
      c.due("the text did not", x.faultPosition(), 3);
      c.due("the history did not", x.total(11), 5);
      x.undo();
      c.due("the text did not by undo()", x.total(12), 4);
      c.due("slot 1 did not", x.restore(1), 14);
      c.due("slot 0 did not", x.restore(0), 5);
    });
    s.test("when one more is recorded, the oldest is dropped.", c -> {
      Watched x = new Watched();
      for (int hours = 1; hours <= 6; hours++) {
        x.pass(hours);
      }
      int[] due = {15, 10, 6, 3, 1};
      for (int hour : due) {
        x.undo();
        c.due("the hour", x.total(0), hour);
      }
      c.due("hour 0 was dropped", x.undo(), -3);
      for (int n = 0; n < 3; n++) {
        x.pass(10);
      }
      x.undo();
      c.due("recorded anew", x.total(0), 21);
    });
    s.test("There are two slots for save(), 0 and 1, empty at first.", c -> {
      Watched x = new Watched();
      c.due("slot 0 is empty", x.restore(0), -3);
      c.due("slot 1 is empty", x.restore(1), -3);
      x.pass(1);
      c.due("save(0)", x.save(0), 1);
      c.due("slot 1 is empty yet", x.restore(1), -3);
      x.pass(1);
      c.due("save(1)", x.save(1), 2);
      c.due("slot 0", x.restore(0), 1);
      c.due("slot 1", x.restore(1), 2);
      c.due("slot -1", x.save(-1), -1);
      c.due("slot 2", x.save(2), -1);
    });
  }

  private static void recordedCalls(Sentences s) {
    s.test("Each call of which it is said that it is recorded, and that reports no error, records the "
        + "state ahead of it ", c -> {
          for (int n = 0; n < 13; n++) {
            stateIsKept(c, "recorded call " + n, Given.world(), recordedCall(n));
          }
          for (int n = 0; n < 16; n++) {
            Watched x = Given.withOneState(Given.world());
            otherCall(n).applyAsInt(x);
            c.due("states after other call " + n, x.total(11), 1);
          }
        });
    s.test("(also if nothing becomes different);", c -> {
      Watched world = Given.world();
      world.addRouter();
      world.register(2);
      stateIsKept(c, "the same life of maps", world.again(), x -> x.setMapLife(20));
      stateIsKept(c, "an empty cache", world.again(), x -> x.forget(2));
      stateIsKept(c, "no act", world.again(), x -> Given.runOf(x, ""));
      stateIsKept(c, "an act with an error", world.again(), x -> Given.runOf(x, "u7;"));
      stateIsKept(c, "a registration in the same hour", world.again(), x -> x.register(2));
      stateIsKept(c, "the state that was saved", world.again(), x -> x.restore(0));
    });
  }

  private static void stateIsKept(
      Check c, String when, Watched given, ToIntFunction<Watched> call) {
    Watched x = Given.withOneState(given);
    String before = Looks.ofState(x);
    c.dueTrue(when + ": no error", call.applyAsInt(x) >= 0);
    c.due(when + ": states", x.total(11), 2);
    c.due(when + ": undo()", x.undo(), 1);
    c.dueText(when + ": the state ahead", Looks.ofState(x), before);
  }

  private static ToIntFunction<Watched> recordedCall(int n) {
    return switch (n) {
      case 0 -> x -> x.addServer(0, 128, 1);
      case 1 -> x -> x.addSite(0, 1, 1);
      case 2 -> x -> x.addRouter();
      case 3 -> x -> x.setSlot(0, 1, 1, 1, 1);
      case 4 -> x -> x.emptySlot(0, 0);
      case 5 -> x -> x.register(1);
      case 6 -> x -> x.unregister(1);
      case 7 -> x -> x.setMapLife(1);
      case 8 -> x -> x.send(0, 255, 0);
      case 9 -> x -> x.pass(1);
      case 10 -> x -> x.forget(1);
      case 11 -> x -> x.run();
      default -> x -> x.restore(1);
    };
  }

  private static ToIntFunction<Watched> otherCall(int n) {
    return switch (n) {
      case 0 -> x -> x.append('t');
      case 1 -> x -> x.clearText();
      case 2 -> x -> x.faultPosition();
      case 3 -> x -> x.save(1);
      case 4 -> x -> x.server(0, 0);
      case 5 -> x -> x.site(0, 0);
      case 6 -> x -> x.slot(0, 0, 0);
      case 7 -> x -> x.router(0, 0);
      case 8 -> x -> x.map(0, 0, 0);
      case 9 -> x -> x.answer(0);
      case 10 -> x -> x.way(0, 0);
      case 11 -> x -> x.endingNext(0);
      case 12 -> x -> x.total(0);
      case 13 -> x -> x.wouldReach(0, 0, 0, 0);
      case 14 -> x -> x.wouldAsk(0, 0, 0);
      default -> x -> x.share(0, 0);
    };
  }

  private static void undo(Sentences s) {
    s.test("int undo(): Removes the latest state from the history and makes it the present one.", c -> {
      Watched x = Given.world();
      String[] before = new String[5];
      for (int n = 0; n < 5; n++) {
        before[n] = Looks.ofState(x);
        recordedCall(2 * n + 1).applyAsInt(x);
      }
      for (int n = 4; n >= 0; n--) {
        x.undo();
        c.dueText("the state ahead of the call", Looks.ofState(x), before[n]);
      }
    });
    s.test("Returns the number of states that are left in the history;", c -> {
      Watched x = new Watched();
      x.pass(1);
      c.due("the only one", x.undo(), 0);
      for (int n = 0; n < 9; n++) {
        x.pass(1);
      }
      c.due("the first of five", x.undo(), 4);
      c.due("it is the number", x.total(11), 4);
      x.pass(1);
      for (int left = 4; left >= 0; left--) {
        c.due("undo()", x.undo(), left);
      }
    });
    s.test("NOT_POSSIBLE if there is none.", c -> {
      Watched x = new Watched();
      c.due("a new object", x.undo(), -3);
      x.append('t');
      x.save(0);
      x.pass(0);
      c.due("without a recorded call", x.undo(), -3);
      x.pass(1);
      x.undo();
      c.due("after the only one", x.undo(), -3);
      c.due("the hour", x.total(0), 0);
    });
  }

  private static void save(Sentences s) {
    s.test("int save(int slot): Keeps a copy of the present state in a slot, ", c -> {
      for (int slot = 0; slot <= 1; slot++) {
        Watched x = Given.world();
        String before = Looks.ofState(x);
        x.save(slot);
        for (int n = 0; n < 11; n++) {
          recordedCall(n).applyAsInt(x);
        }
        x.restore(slot);
        c.dueText("the state that was saved", Looks.ofState(x), before);
      }
    });
    s.test("in place of what it holds.", c -> {
      Watched x = new Watched();
      x.addRouter();
      x.save(0);
      x.save(1);
      x.addSite(0, 1, 1);
      x.save(0);
      x.pass(3);
      c.due("slot 0", x.restore(0), 0);
      c.due("its sites", x.total(2), 1);
      c.due("slot 1", x.restore(1), 0);
      c.due("its sites then", x.total(2), 0);
    });
    s.test("Not recorded.", c -> {
      Watched x = Given.withOneState(Given.world());
      x.save(0);
      x.save(1);
      c.due("states", x.total(11), 1);
      Watched y = new Watched();
      y.save(0);
      c.due("nothing to undo", y.undo(), -3);
    });
    s.test("slot: 0 or 1", c -> {
      Watched x = new Watched();
      x.pass(1);
      c.due("slot 0", x.save(0), 1);
      x.pass(1);
      c.due("slot 1", x.save(1), 2);
      c.due("slot 0 has its own", x.restore(0), 1);
      c.due("slot 1 has its own", x.restore(1), 2);
    });
    s.test("Returns the hour;", c -> {
      Watched x = new Watched();
      c.due("the first", x.save(0), 0);
      Given.untilHour(x, 9999);
      c.due("the last", x.save(1), 9999);
    });
    s.test("BAD_INDEX if there is no such slot.", c -> {
      Watched x = new Watched();
      for (int slot : Given.outside(0, 1)) {
        c.due("save(" + slot + ")", x.save(slot), -1);
      }
      c.due("slot 0 is empty", x.restore(0), -3);
      c.due("slot 1 is empty", x.restore(1), -3);
    });
  }

  private static void restore(Sentences s) {
    s.test("int restore(int slot): Makes a copy of the state that a slot holds the present one.", c -> {
      Watched x = Given.world();
      x.save(0);
      x.save(1);
      String before = Looks.ofState(x);
      for (int n = 0; n < 11; n++) {
        x.restore(n % 2);
        c.dueText("the state of slot " + n % 2, Looks.ofState(x), before);
        recordedCall(n).applyAsInt(x);
      }
      worldsInTurn(c);
    });
    s.recorded(Given::world, x -> x.restore(1));
    s.test("slot: 0 or 1", c -> {
      Watched x = new Watched();
      x.save(1);
      x.pass(1);
      x.save(0);
      x.pass(1);
      c.due("slot 0", x.restore(0), 1);
      c.due("slot 1", x.restore(1), 0);
    });
    s.test("Returns the hour, as it is then;", c -> {
      Watched x = new Watched();
      x.save(0);
      Given.untilHour(x, 9999);
      x.save(1);
      c.due("the first", x.restore(0), 0);
      c.due("it is the hour", x.total(0), 0);
      c.due("the last", x.restore(1), 9999);
      c.due("it is the hour then", x.total(0), 9999);
    });
    s.test("BAD_INDEX if there is no such slot;", c -> {
      Watched x = new Watched();
      x.save(0);
      x.save(1);
      for (int slot : Given.outside(0, 1)) {
        c.due("restore(" + slot + ")", x.restore(slot), -1);
      }
      c.due("states", x.total(11), 0);
    });
    s.test("NOT_POSSIBLE if it is empty.", c -> {
      for (int slot = 0; slot <= 1; slot++) {
        Watched x = new Watched();
        c.due("both are empty", x.restore(slot), -3);
        x.save(1 - slot);
        c.due("the other one is not", x.restore(slot), -3);
        x.save(slot);
        c.due("it is not", x.restore(slot), 0);
      }
    });
  }

  /** Two worlds that differ in everything take turns, so that nothing of one stays in the other. */
  private static void worldsInTurn(Check c) {
    Watched x = Given.world();
    x.save(0);
    String first = Looks.ofState(x);
    x.restore(1);
    Given.buildOtherWorld(x);
    x.save(1);
    String second = Looks.ofState(x);
    for (int n = 0; n < 3; n++) {
      x.restore(0);
      c.dueText("the first world", Looks.ofState(x), first);
      x.restore(1);
      c.dueText("the second world", Looks.ofState(x), second);
      x.undo();
      c.dueText("the first world by undo()", Looks.ofState(x), first);
      x.undo();
      c.dueText("the second world by undo()", Looks.ofState(x), second);
    }
  }

  private static void totals(Sentences s) {
    s.test("int total(int property): Returns a number. property: 0 the hour, ", c -> {
      Watched x = new Watched();
      c.due("at first", x.total(0), 0);
      Given.untilHour(x, 9999);
      c.due("the last one", x.total(0), 9999);
    });
    s.test("1 the number of servers, 2 of sites, 3 of routers, ", c -> {
      int[] first = {1, 0, 0};
      int[] most = {8, 8, 4};
      Watched x = new Watched();
      for (int n = 0; n <= 7; n++) {
        for (int property = 1; property <= 3; property++) {
          c.due("total(" + property + ")", x.total(property),
              Math.min(first[property - 1] + n, most[property - 1]));
        }
        x.addServer(0, n, 1);
        x.addSite(n, 1, 1);
        x.addRouter();
      }
      for (int property = 1; property <= 3; property++) {
        c.due("the most of total(" + property + ")", x.total(property), most[property - 1]);
      }
    });
    s.test("4 of sites that are up, ", c -> {
      Watched x = Given.eightSites();
      for (int site = 0; site <= 7; site++) {
        x.register(site);
        c.due("registered without a slot", x.total(4), site);
        x.setSlot(site, site % 3, 0, 0, 1);
        c.due("up", x.total(4), site + 1);
      }
      for (int hour = 1; hour <= 8; hour++) {
        x.pass(1);
        c.due("in hour " + hour, x.total(4), 8 - hour);
      }
    });
    s.test("5 of maps in all caches (also of those that do not hold), ", c -> {
      Watched x = Given.sitesOfOneName(6);
      for (int router = 0; router <= 3; router++) {
        for (int site = 0; site <= 5; site++) {
          x.send(router, site, 0);
          c.due("maps", x.total(5), 5 * router + Math.min(site + 1, 5));
        }
        x.addRouter();
      }
      x.pass(10);
      c.due("20 that do not hold", x.total(5), 20);
      x.send(3, 0, 0);
      c.due("five were dropped", x.total(5), 16);
    });
  }

  private static void totalsOfRouters(Sentences s) {
    s.test("6 of asks so far, 7 of letters so far, ", c -> {
      Watched x = Given.fourRouters();
      x.addServer(0, 0, 128);
      Given.siteUp(x, 0, 128, 1);
      for (int router = 0; router <= 3; router++) {
        x.send(router, 0, 0);
        x.send(router, 127, 0);
        x.send(router, 128, 0);
        c.due("asks", x.total(6), 2 * router + 2);
        c.due("letters", x.total(7), 3 * router + 3);
      }
    });
    s.test("8 of those that went by a proxy, ", c -> {
      Watched x = Given.fourRouters();
      Given.siteUp(x, 0, 128, 1);
      for (int router = 0; router <= 3; router++) {
        x.send(router, 0, 0);
        x.send(router, 128, 0);
        x.send(router, 255, 0);
        c.due("letters by a proxy", x.total(8), 2 * router + 2);
      }
    });
    s.test("9 of old maps that were met so far, ", c -> {
      Watched x = Given.fourRouters();
      Given.siteUp(x, 0, 128, 1);
      for (int router = 0; router <= 3; router++) {
        x.register(0);
        x.send(router, 0, 0);
        c.due("a map", x.total(9), router);
        x.unregister(0);
        x.send(router, 0, 0);
        x.send(router, 0, 0);
        c.due("an old map", x.total(9), router + 1);
      }
    });
  }

  private static void otherTotals(Sentences s) {
    s.test("10 the setting 0, ", c -> {
      Watched x = new Watched();
      c.due("at first", x.total(10), 10);
      for (int life : new int[] {1, 100, 48}) {
        x.setMapLife(life);
        c.due("then", x.total(10), life);
      }
    });
    s.test("11 the number of states in the history, ", c -> {
      Watched x = new Watched();
      for (int states : new int[] {0, 1, 2, 3, 4, 5, 5}) {
        c.due("states", x.total(11), states);
        x.pass(1);
      }
      x.undo();
      c.due("one less", x.total(11), 4);
    });
    s.test("12 the length of the text, ", c -> {
      Watched x = new Watched();
      for (int length = 0; length <= 80; length++) {
        c.due("length", x.total(12), length);
        x.append(32);
      }
      c.due("the most", x.total(12), 80);
    });
    s.test("13 the number of names for which there is an answer", c -> {
      Watched x = new Watched();
      c.due("none", x.total(13), 0);
      Given.siteUp(x, 255, 1, 1);
      c.due("one", x.total(13), 1);
      Given.siteUp(x, 0, 128, 1);
      Given.siteUp(x, 0, 64, 1);
      c.due("a block in another one", x.total(13), 129);
      x.addServer(0, 0, 32);
      c.due("without the names of another home", x.total(13), 97);
      Given.siteUp(x, 0, 256, 1);
      c.due("all but those", x.total(13), 224);
      Given.siteUp(x, 0, 32, 1);
      c.due("all", x.total(13), 256);
      x.pass(47);
      c.due("in the last hour", x.total(13), 256);
      x.pass(1);
      c.due("at the end", x.total(13), 0);
    });
    s.plain("Returns the number;");
    s.test("BAD_VALUE if property is out of range.", c -> {
      Watched x = Given.world();
      for (int property : Given.outside(0, 13)) {
        c.due("total(" + property + ")", x.total(property), -2);
      }
    });
  }
}
