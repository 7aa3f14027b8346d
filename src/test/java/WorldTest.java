/** Promises 1 (a new object) and 28 (total). */
public final class WorldTest {
  private static final Check check = new Check();

  public static void main(String[] args) {
    constants();
    newObject();
    newNames();
    totals();
    totalsOfRouters();
    namesWithAnswer();
    check.end();
  }

  private static void constants() {
    check.due("BAD_INDEX", NameMaps.BAD_INDEX, -1);
    check.due("BAD_VALUE", NameMaps.BAD_VALUE, -2);
    check.due("NOT_POSSIBLE", NameMaps.NOT_POSSIBLE, -3);
    check.due("FULL", NameMaps.FULL, -4);
    check.due("NONE", NameMaps.NONE, -5);
  }

  private static void newObject() {
    Watched x = new Watched();
    int[] totals = {0, 1, 0, 0, 0, 0, 0, 0, 0, 0, 10, 0, 0, 0};
    for (int property = 0; property < totals.length; property++) {
      check.due("new total(" + property + ")", x.total(property), totals[property]);
    }
    int[] server = {-5, 0, 256, 0, 1, 0};
    for (int property = 0; property < server.length; property++) {
      check.due("new server(0, " + property + ")", x.server(0, property), server[property]);
    }
    check.due("new server(1, 0)", x.server(1, 0), -1);
    check.due("new site(0, 0)", x.site(0, 0), -1);
    check.due("new router(0, 0)", x.router(0, 0), -1);
    check.due("new faultPosition()", x.faultPosition(), -5);
    check.due("new undo()", x.undo(), -3);
    check.due("new restore(0)", x.restore(0), -3);
    check.due("new restore(1)", x.restore(1), -3);
    check.due("new endingNext(0)", x.endingNext(0), -5);
    Watched other = new Watched();
    x.addRouter();
    check.due("another object's routers", other.total(3), 0);
  }

  private static void newNames() {
    for (int name = 0; name < 256; name++) {
      Watched x = new Watched();
      check.due("new answer", x.answer(name), -5);
      check.due("new way home", x.way(name, 0), 0);
      check.due("new way hops", x.way(name, 1), 1);
    }
  }

  private static void totals() {
    Watched x = new Watched();
    check.due("total(-1)", x.total(-1), -2);
    check.due("total(14)", x.total(14), -2);
    check.due("total(least)", x.total(Integer.MIN_VALUE), -2);
    check.due("total(most)", x.total(Integer.MAX_VALUE), -2);
    x.addServer(0, 0, 128);
    x.addServer(0, 128, 128);
    check.due("servers", x.total(1), 3);
    x.addSite(0, 64, 5);
    x.addSite(64, 64, 6);
    x.addSite(128, 64, 7);
    check.due("sites", x.total(2), 3);
    x.register(0);
    x.register(1);
    check.due("sites up without slots", x.total(4), 0);
    x.setSlot(0, 0, 1, 1, 1);
    x.setSlot(1, 2, 1, 1, 1);
    x.setSlot(2, 2, 1, 1, 1);
    check.due("sites up", x.total(4), 2);
    check.due("names with an answer", x.total(13), 128);
    check.due("pass(5)", x.pass(5), 5);
    check.due("hour", x.total(0), 5);
    check.due("sites up at hour 5", x.total(4), 1);
    check.due("names with an answer at hour 5", x.total(13), 64);
    check.due("setMapLife(99)", x.setMapLife(99), 10);
    check.due("life of maps", x.total(10), 99);
    check.due("states", x.total(11), 5);
    x.append('r');
    x.append('0');
    check.due("length", x.total(12), 2);
  }

  private static void totalsOfRouters() {
    Watched x = new Watched();
    x.addServer(0, 128, 128);
    x.addSite(0, 128, 48);
    x.setSlot(0, 0, 3, 0, 1);
    x.register(0);
    x.addRouter();
    x.addRouter();
    check.due("routers", x.total(3), 2);
    check.due("send(0, 0, 0)", x.send(0, 0, 0), 3);
    check.due("send(1, 1, 0)", x.send(1, 1, 0), 3);
    check.due("send(1, 200, 0)", x.send(1, 200, 0), 38);
    check.due("maps", x.total(5), 2);
    check.due("asks", x.total(6), 3);
    check.due("hops", x.router(0, 2) + x.router(1, 2), 4);
    check.due("send(0, 2, 0)", x.send(0, 2, 0), 3);
    check.due("send(0, 3, 0)", x.send(0, 3, 0), 3);
    check.due("letters", x.total(7), 5);
    check.due("letters by a proxy", x.total(8), 1);
    x.setSlot(0, 0, 4, 0, 1);
    check.due("send(0, 0, 0)", x.send(0, 0, 0), 4);
    check.due("send(1, 0, 0)", x.send(1, 0, 0), 4);
    check.due("old maps", x.total(9), 2);
    check.due("asks then", x.total(6), 5);
    x.pass(10);
    check.due("maps, also of those that do not hold", x.total(5), 2);
  }

  private static void namesWithAnswer() {
    Watched x = new Watched();
    x.addServer(0, 64, 64);
    x.addSite(0, 256, 48);
    x.setSlot(0, 0, 1, 1, 1);
    x.register(0);
    check.due("names whose home is server 0", x.total(13), 192);
    x.addSite(64, 2, 48);
    x.setSlot(1, 0, 1, 1, 1);
    x.register(1);
    check.due("names of two homes", x.total(13), 194);
  }
}
