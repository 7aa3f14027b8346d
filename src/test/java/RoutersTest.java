/** Promises 4 (addRouter), 9 (setMapLife), 12 (forget), 23 (router) and 24 (map). */
public final class RoutersTest {
  private static final Check check = new Check();

  public static void main(String[] args) {
    adding();
    lifeOfMaps();
    forgetting();
    properties();
    maps();
    orderOfMaps();
    check.end();
  }

  /** An object with sites 0 to 6, each with one name (its number), its own place, and one router. */
  private static Watched withSites() {
    Watched x = new Watched();
    for (int site = 0; site < 7; site++) {
      x.addSite(site, 1, 48);
      x.setSlot(site, 0, 10 + site, 0, 1);
      x.register(site);
    }
    x.addRouter();
    return x;
  }

  private static void adding() {
    Watched x = new Watched();
    for (int router = 0; router < 4; router++) {
      check.due("addRouter()", x.addRouter(), router);
      check.due("its maps", x.router(router, 0), 0);
    }
    check.due("a fifth", x.addRouter(), -4);
    check.due("routers", x.total(3), 4);
    check.due("states", x.total(11), 4);
    Watched y = withSites();
    y.send(0, 0, 0);
    y.undo();
    y.undo();
    check.due("added anew", y.addRouter(), 0);
    for (int property = 0; property <= 5; property++) {
      check.due("a new router's property", y.router(0, property), 0);
    }
  }

  private static void lifeOfMaps() {
    Watched x = withSites();
    check.due("life 0", x.setMapLife(0), -2);
    check.due("life 101", x.setMapLife(101), -2);
    check.due("life -1", x.setMapLife(-1), -2);
    check.due("life most", x.setMapLife(Integer.MAX_VALUE), -2);
    check.due("setting 0 at first", x.total(10), 10);
    x.send(0, 0, 0);
    check.due("life 1", x.setMapLife(1), 10);
    check.due("maps that are there stay", x.map(0, 0, 2), 10);
    x.send(0, 1, 0);
    check.due("new maps have it", x.map(0, 0, 2), 1);
    check.due("life 100", x.setMapLife(100), 1);
    x.pass(3);
    x.send(0, 2, 0);
    check.due("the hour then and the life", x.map(0, 0, 2), 103);
    check.due("life 100 again", x.setMapLife(100), 100);
  }

  private static void forgetting() {
    Watched x = withSites();
    x.addRouter();
    check.due("router 2", x.forget(2), -1);
    check.due("router -1", x.forget(-1), -1);
    check.due("router least", x.forget(Integer.MIN_VALUE), -1);
    check.due("an empty cache", x.forget(0), 0);
    x.send(0, 0, 0);
    x.send(0, 1, 0);
    x.send(1, 1, 0);
    x.pass(10);
    check.due("maps that do not hold count", x.forget(0), 2);
    check.due("it is empty", x.router(0, 0), 0);
    check.due("no map", x.map(0, 0, 0), -1);
    check.due("the other router's", x.router(1, 0), 1);
    check.due("again", x.forget(0), 0);
    check.due("asks stay", x.router(0, 1), 2);
    check.due("it asks anew", x.send(0, 1, 0), 11);
    check.due("asks", x.router(0, 1), 3);
  }

  private static void properties() {
    Watched x = withSites();
    x.addServer(0, 0, 2);
    x.addServer(1, 1, 1);
    x.addRouter();
    x.send(1, 1, 0);
    x.send(1, 1, 0);
    x.send(1, 2, 0);
    x.send(1, 100, 0);
    x.setSlot(1, 0, 20, 0, 1);
    x.send(1, 1, 0);
    int[] due = {2, 4, 3 + 1 + 1 + 3, 5, 1, 1};
    for (int property = 0; property < due.length; property++) {
      check.due("router(1, " + property + ")", x.router(1, property), due[property]);
      check.due("router(0, " + property + ")", x.router(0, property), 0);
    }
    check.due("property 6", x.router(1, 6), -2);
    check.due("property -1", x.router(1, -1), -2);
    check.due("router 2", x.router(2, 0), -1);
    check.due("router -1", x.router(-1, 0), -1);
    check.due("index ahead of value", x.router(2, 6), -1);
    x.pass(20);
    check.due("maps that do not hold count", x.router(1, 0), 2);
  }

  private static void maps() {
    Watched x = withSites();
    x.pass(2);
    x.send(0, 3, 0);
    int[] due = {3, 2, 12, 0, 1};
    for (int property = 0; property < due.length; property++) {
      check.due("map(0, 0, " + property + ")", x.map(0, 0, property), due[property]);
    }
    check.due("property 5", x.map(0, 0, 5), -2);
    check.due("property -1", x.map(0, 0, -1), -2);
    check.due("place 1", x.map(0, 1, 0), -1);
    check.due("place -1", x.map(0, -1, 0), -1);
    check.due("place 5", x.map(0, 5, 0), -1);
    check.due("place most", x.map(0, Integer.MAX_VALUE, 0), -1);
    check.due("router 1", x.map(1, 0, 0), -1);
    check.due("router -1", x.map(-1, 0, 0), -1);
    check.due("index ahead of value", x.map(0, 1, 5), -1);
    x.setSlot(3, 1, 9, 9, 9);
    check.due("a map does not change with its site", x.map(0, 0, 1), 2);
    check.due("it is not marked", x.map(0, 0, 3), 0);
    x.send(0, 3, 0);
    check.due("it is marked", x.map(0, 0, 3), 1);
    x.pass(9);
    check.due("it holds in the hour before", x.map(0, 0, 4), 1);
    x.pass(1);
    check.due("it does not hold at its end", x.map(0, 0, 4), 0);
    check.due("it is there", x.router(0, 0), 1);
  }

  private static void orderOfMaps() {
    Watched x = withSites();
    for (int site = 0; site < 5; site++) {
      x.send(0, site, 0);
    }
    sitesOfMaps("latest first", x, 4, 3, 2, 1, 0);
    x.send(0, 2, 0);
    sitesOfMaps("a used one comes first", x, 2, 4, 3, 1, 0);
    x.send(0, 0, 0);
    sitesOfMaps("the last one comes first", x, 0, 2, 4, 3, 1);
    check.due("no more asks", x.router(0, 1), 5);
    x.send(0, 5, 0);
    sitesOfMaps("the last one is dropped", x, 5, 0, 2, 4, 3);
    x.setSlot(2, 0, 30, 0, 1);
    x.send(0, 2, 0);
    sitesOfMaps("a map of the same site is dropped", x, 2, 5, 0, 4, 3);
    x.send(0, 200, 0);
    sitesOfMaps("a letter by the proxy", x, 2, 5, 0, 4, 3);
    x.setSlot(4, 1, 30, 1, 1);
    x.send(0, 4, 0);
    sitesOfMaps("a map that becomes marked", x, 4, 2, 5, 0, 3);
    x.send(0, 3, 0);
    x.send(0, 4, 0);
    sitesOfMaps("a marked map is made anew", x, 4, 3, 2, 5, 0);
    check.due("its version", x.map(0, 0, 1), 3);
    check.due("its mark", x.map(0, 0, 3), 0);
  }

  private static void sitesOfMaps(String when, Watched x, int... sites) {
    for (int place = 0; place < sites.length; place++) {
      check.due(when + ", map(0, " + place + ", 0)", x.map(0, place, 0), sites[place]);
    }
    check.due(when + ", the number of maps", x.router(0, 0), sites.length);
  }
}
