import java.util.function.Supplier;

/** The errors: their words in the terms. */
final class ErrorSentences {
  private ErrorSentences() {
  }

  static void tests(Sentences s) {
    s.section("Terms");
    errors(s);
    order(s);
    nothingChanges(s);
    constants(s);
    otherConstants(s);
    headings(s);
  }

  private static void errors(Sentences s) {
    s.test("Errors. Errors are reported by negative constants.", c -> {
      int[] constants = {NameMaps.BAD_INDEX, NameMaps.BAD_VALUE, NameMaps.NOT_POSSIBLE, NameMaps.FULL};
      for (int n = 0; n < constants.length; n++) {
        c.due("constant " + n, constants[n], -1 - n);
      }
      Watched x = new Watched();
      c.due("no router", x.forget(0), NameMaps.BAD_INDEX);
      c.due("no hours", x.pass(0), NameMaps.BAD_VALUE);
      c.due("no state", x.undo(), NameMaps.NOT_POSSIBLE);
      c.due("no room", full().addRouter(), NameMaps.FULL);
    });
    s.test("NONE is not an error and is returned only if no error applies.", c -> {
      Watched x = Given.eightSites();
      c.due("the parent of server 0", x.server(0, 0), -5);
      c.due("the parent of no server", x.server(1, 0), -1);
      c.due("an empty slot", x.slot(0, 0, 0), -5);
      c.due("an empty slot, a wrong property", x.slot(0, 0, 3), -2);
      c.due("an empty slot, a wrong property below", x.slot(0, 0, -1), -2);
      c.due("no slot", x.slot(0, 3, 0), -1);
      c.due("no site", x.slot(8, 0, 0), -1);
      c.due("no answer", x.answer(0), -5);
      c.due("no name", x.answer(256), -2);
      c.due("no ending", x.endingNext(0), -5);
      c.due("no place", x.endingNext(-1), -2);
      c.due("no fault", x.faultPosition(), -5);
    });
  }

  /** All rows are full, the hour is the last one, the text has 80 bytes. */
  private static Watched full() {
    Watched x = Given.chainOfServers();
    for (int site = 0; site <= 7; site++) {
      x.addSite(8 * site, 8, 48);
    }
    for (int router = 0; router <= 3; router++) {
      x.addRouter();
    }
    Given.untilHour(x, 9999);
    Given.text(x, "t".repeat(80));
    return x;
  }

  private static void order(Sentences s) {
    s.test("Where several can apply, the order of the @return line is the order of the checks.", c -> {
      Watched x = full();
      int[][] servers = {{8, 3, 3, -1}, {-1, 0, 256, -1}, {8, 0, 128, -1}, {8, 128, 1, -1},
          {0, 0, 256, -2}, {1, 128, 1, -2}, {7, 0, 2, -2}, {0, 1, 2, -2}, {0, 0, 128, -3},
          {0, 0, 1, -3}, {6, 1, 1, -3}, {0, 128, 1, -4}};
      for (int[] row : servers) {
        c.due("addServer(" + row[0] + ", " + row[1] + ", " + row[2] + ")",
            x.addServer(row[0], row[1], row[2]), row[3]);
      }
      int[][] sites = {{0, 8, 0, -2}, {0, 8, 49, -2}, {1, 8, 1, -2}, {128, 8, 49, -2}, {0, 7, 1, -2},
          {0, 8, 1, -3}, {56, 8, 48, -3}, {128, 8, 1, -4}};
      for (int[] row : sites) {
        c.due("addSite(" + row[0] + ", " + row[1] + ", " + row[2] + ")",
            x.addSite(row[0], row[1], row[2]), row[3]);
      }
      c.due("pass: value, not possible", x.pass(100), -2);
      c.due("pass: value below, not possible", x.pass(0), -2);
      c.due("pass: not possible", x.pass(1), -3);
      c.due("append: value, full", x.append(127), -2);
      c.due("append: value below, full", x.append(31), -2);
      c.due("append: full", x.append(32), -4);
      c.due("restore: index, not possible", x.restore(2), -1);
      c.due("restore: not possible", x.restore(1), -3);
      indexAheadOfValue(c, x);
    });
  }

  private static void indexAheadOfValue(Check c, Watched x) {
    c.due("setSlot: site, place", x.setSlot(8, 0, 32, 0, 1), -1);
    c.due("setSlot: site, priority", x.setSlot(-1, 0, 0, 10, 1), -1);
    c.due("setSlot: slot, weight", x.setSlot(0, 3, 0, 0, 0), -1);
    c.due("setSlot: slot, all", x.setSlot(0, -1, -1, -1, -1), -1);
    c.due("emptySlot: slot", x.emptySlot(0, 3), -1);
    c.due("emptySlot: not possible", x.emptySlot(0, 2), -3);
    c.due("unregister: index", x.unregister(8), -1);
    c.due("unregister: not possible", x.unregister(7), -3);
    c.due("send: router, name", x.send(4, 256, 0), -1);
    c.due("send: router, flow", x.send(-1, 0, 100), -1);
    c.due("server: index, property", x.server(8, 6), -1);
    c.due("site: index, property", x.site(8, 8), -1);
    c.due("slot: site, property", x.slot(8, 0, 3), -1);
    c.due("slot: slot, property", x.slot(0, 3, 3), -1);
    c.due("slot: property, none", x.slot(0, 0, 3), -2);
    c.due("router: index, property", x.router(4, 6), -1);
    c.due("map: router, property", x.map(4, 0, 5), -1);
    c.due("map: map, property", x.map(0, 0, 5), -1);
    c.due("answer: value, none", x.answer(-1), -2);
    c.due("endingNext: value, none", x.endingNext(-1), -2);
    c.due("wouldReach: router, name", x.wouldReach(4, 256, 0, 0), -1);
    c.due("wouldReach: router, flow", x.wouldReach(4, 0, 100, 0), -1);
    c.due("wouldReach: router, hours", x.wouldReach(-1, 0, 0, 100), -1);
    c.due("wouldAsk: router, name", x.wouldAsk(4, -1, 0), -1);
    c.due("wouldAsk: router, flow", x.wouldAsk(4, 0, -1), -1);
    c.due("share: site, place", x.share(8, 32), -1);
  }

  private static void nothingChanges(Sentences s) {
    s.test("A call that reports an error changes nothing.", c -> {
      nothingChanges(c, Given::world,
          call("addServer", 3, 128, 1), call("addServer", 0, 3, 4), call("addServer", 0, 0, 256),
          call("addServer", 0, 64, 64), call("addSite", 0, 3, 1), call("addSite", 0, 1, 0),
          call("addSite", 0, 128, 1), call("setSlot", 3, 0, 1, 1, 1), call("setSlot", 0, 3, 1, 1, 1),
          call("setSlot", 0, 0, 32, 1, 1), call("setSlot", 0, 0, 1, 10, 1),
          call("setSlot", 0, 0, 1, 1, 0), call("emptySlot", 3, 0), call("emptySlot", 0, -1),
          call("emptySlot", 2, 1), call("register", 3), call("register", -1), call("unregister", 3),
          call("setMapLife", 0), call("setMapLife", 101), call("send", 2, 70, 0),
          call("send", 0, 256, 0), call("send", 0, 70, 100), call("send", 1, -1, -1),
          call("pass", 0), call("pass", 100), call("forget", 2), call("forget", -1),
          call("append", 31), call("append", 127), call("save", 2), call("save", -1),
          call("restore", 2), call("restore", -1), call("server", 3, 0), call("site", 0, 8),
          call("slot", 0, 3, 0), call("router", 0, 6), call("map", 0, 5, 0), call("answer", 256),
          call("way", 0, 2), call("endingNext", -1), call("total", 14),
          call("wouldReach", 0, 70, 0, 100), call("wouldReach", 2, 70, 0, 0),
          call("wouldAsk", 0, 70, 100), call("share", 0, 32));
      nothingChanges(c, ErrorSentences::full,
          call("addServer", 0, 128, 1), call("addServer", 0, 0, 128), call("addSite", 128, 1, 1),
          call("addRouter"), call("pass", 1), call("append", 't'), call("run"),
          call("unregister", 0), call("restore", 0), call("restore", 1));
      nothingChanges(c, () -> Given.withText("r0"), call("undo"), call("run"), call("restore", 0));
    });
  }

  private static Watched.Call call(String name, int... arguments) {
    return new Watched.Call(name, arguments);
  }

  private static void nothingChanges(Check c, Supplier<Watched> given, Watched.Call... errors) {
    String before = Looks.ofEverything(given.get());
    for (Watched.Call error : errors) {
      Watched x = given.get();
      int answer = x.call(error.name(), error.arguments());
      c.dueTrue(error.name() + " reports an error", answer < 0 && answer > -5);
      c.dueText("all after " + error.name(), Looks.ofEverything(x), before);
    }
  }

  private static void constants(Sentences s) {
    s.test("The constants: BAD_INDEX = -1: There is no such server, site, router, map or slot.", c -> {
      c.due("BAD_INDEX", NameMaps.BAD_INDEX, -1);
      Watched x = Given.world();
      c.due("no such server", x.server(3, 0), NameMaps.BAD_INDEX);
      c.due("no such site", x.site(3, 0), NameMaps.BAD_INDEX);
      c.due("no such router", x.router(2, 0), NameMaps.BAD_INDEX);
      c.due("no such map", x.map(0, 2, 0), NameMaps.BAD_INDEX);
      c.due("no such slot of a site", x.slot(0, 3, 0), NameMaps.BAD_INDEX);
      c.due("no such slot of save()", x.save(2), NameMaps.BAD_INDEX);
    });
    s.test("BAD_VALUE = -2: Another argument is out of range.", c -> {
      c.due("BAD_VALUE", NameMaps.BAD_VALUE, -2);
      Watched x = Given.world();
      c.due("property", x.server(0, 6), NameMaps.BAD_VALUE);
      c.due("name", x.answer(256), NameMaps.BAD_VALUE);
      c.due("life", x.setMapLife(0), NameMaps.BAD_VALUE);
      c.due("byte", x.append(127), NameMaps.BAD_VALUE);
      c.due("hours", x.pass(100), NameMaps.BAD_VALUE);
      c.due("place in an order", x.endingNext(-1), NameMaps.BAD_VALUE);
    });
  }

  private static void otherConstants(Sentences s) {
    s.test("NOT_POSSIBLE = -3: The call is not possible now.", c -> {
      c.due("NOT_POSSIBLE", NameMaps.NOT_POSSIBLE, -3);
      Watched x = new Watched();
      c.due("undo()", x.undo(), NameMaps.NOT_POSSIBLE);
      x.pass(1);
      c.due("undo() is possible then", x.undo(), 0);
      c.due("restore(0)", x.restore(0), NameMaps.NOT_POSSIBLE);
      x.save(0);
      c.due("restore(0) is possible then", x.restore(0), 0);
    });
    s.test("FULL = -4: There is no room.", c -> {
      c.due("FULL", NameMaps.FULL, -4);
      Watched x = full();
      c.due("servers", x.addServer(0, 128, 1), NameMaps.FULL);
      c.due("sites", x.addSite(128, 1, 1), NameMaps.FULL);
      c.due("routers", x.addRouter(), NameMaps.FULL);
      c.due("bytes", x.append(32), NameMaps.FULL);
      x.clearText();
      c.due("bytes then", x.append(32), 1);
    });
    s.test("NONE = -5: There is no such thing; not an error.", c -> {
      c.due("NONE", NameMaps.NONE, -5);
      Watched x = Given.world();
      c.due("no parent", x.server(0, 0), NameMaps.NONE);
      c.due("nothing in a slot", x.slot(2, 2, 0), NameMaps.NONE);
      c.due("no fault", x.faultPosition(), NameMaps.NONE);
      c.due("no fourth ending", x.endingNext(3), NameMaps.NONE);
      c.due("no answer", new Watched().answer(0), NameMaps.NONE);
    });
  }

  private static void headings(Sentences s) {
    s.plain("Ahead of the calls addServer, addSite, addRouter, setSlot, emptySlot, register, unregister, "
        + "setMapLife the interface says: ---- servers, sites, routers.");
    s.plain("Ahead of the calls send, pass, forget the interface says: ---- letters and hours.");
    s.plain("Ahead of the calls append, clearText, faultPosition, run the interface says: ---- the text.");
    s.plain("Ahead of the calls undo, save, restore the interface says: ---- history and slots.");
    s.test("Ahead of the calls server, site, slot, router, map, answer, way, endingNext, total the "
        + "interface says: ---- looking.", c -> {
          String before = Looks.ofEverything(Given.world());
          for (Watched.Call look : new Watched.Call[] {call("server", 2, 5), call("site", 2, 7),
              call("slot", 0, 0, 2), call("router", 1, 5), call("map", 0, 1, 4), call("answer", 70),
              call("way", 70, 1), call("endingNext", 2), call("total", 13)}) {
            Watched x = Given.world();
            c.dueTrue(look.name() + " is no error", x.call(look.name(), look.arguments()) >= 0);
            c.dueText("all after " + look.name(), Looks.ofEverything(x), before);
          }
        });
    s.test("Ahead of the calls wouldReach, wouldAsk, share the interface says: ---- what could be, which "
        + "changes nothing.", c -> {
          String before = Looks.ofEverything(Given.world());
          Watched x = Given.world();
          int[] names = {0, 5, 64, 70, 130, 200, 255};
          for (int name : names) {
            for (int router = 0; router <= 1; router++) {
              x.wouldAsk(router, name, 0);
              for (int hours : new int[] {0, 1, 9, 50, 99}) {
                x.wouldReach(router, name, 99, hours);
              }
            }
          }
          for (int site = 0; site <= 2; site++) {
            x.share(site, 1);
          }
          c.dueText("all after them", Looks.ofEverything(x), before);
        });
  }
}
