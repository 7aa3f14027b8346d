/** Promises 10 (send), 11 (pass), 29 (wouldReach) and 30 (wouldAsk). */
public final class LettersTest {
  private static final Check check = new Check();

  public static void main(String[] args) {
    wrongArguments();
    proxies();
    choiceOfPlaces();
    smallestMap();
    markedMaps();
    markedMapOfAnotherSite();
    markedMapWithoutAnswer();
    oldMaps();
    oldMapsWithoutAnswer();
    mapsThatEnded();
    fullCacheThatEnded();
    fullCacheWithMarkedMap();
    hours();
    wouldReach();
    wouldAsk();
    check.end();
  }

  /** Site 0 with all names and place 1, site 1 with names 0 to 63 and place 2; one router. */
  private static Watched withTwoSites() {
    Watched x = new Watched();
    x.addSite(0, 256, 48);
    x.addSite(0, 64, 48);
    x.setSlot(0, 0, 1, 0, 1);
    x.setSlot(1, 0, 2, 0, 1);
    x.addRouter();
    return x;
  }

  private static void wrongArguments() {
    Watched x = withTwoSites();
    String before = Looks.ofAll(x);
    int[][] calls = {
        {1, 0, 0, -1}, {-1, 0, 0, -1}, {Integer.MAX_VALUE, 0, 0, -1}, {1, 256, 100, -1},
        {0, -1, 0, -2}, {0, 256, 0, -2}, {0, Integer.MIN_VALUE, 0, -2},
        {0, 0, -1, -2}, {0, 0, 100, -2}, {0, 0, Integer.MAX_VALUE, -2},
    };
    for (int[] c : calls) {
      check.due("send", x.send(c[0], c[1], c[2]), c[3]);
      check.due("wouldReach", x.wouldReach(c[0], c[1], c[2], 0), c[3]);
      check.due("wouldAsk", x.wouldAsk(c[0], c[1], c[2]), c[3]);
    }
    check.due("hours -1", x.wouldReach(0, 0, 0, -1), -2);
    check.due("hours 100", x.wouldReach(0, 0, 0, 100), -2);
    check.due("hours most", x.wouldReach(0, 0, 0, Integer.MAX_VALUE), -2);
    check.due("index ahead of value", x.wouldReach(1, 0, 0, 100), -1);
    check.dueText("after errors", Looks.ofAll(x), before);
  }

  private static void proxies() {
    Watched x = new Watched();
    x.addRouter();
    int[] names = {0, 31, 32, 63, 64, 127, 128, 224, 255};
    int[] places = {32, 32, 33, 33, 34, 35, 36, 39, 39};
    for (int n = 0; n < names.length; n++) {
      check.due("send(0, " + names[n] + ", 0)", x.send(0, names[n], 0), places[n]);
    }
    check.due("asks", x.router(0, 1), names.length);
    check.due("letters", x.router(0, 3), names.length);
    check.due("letters by a proxy", x.router(0, 4), names.length);
    check.due("old maps", x.router(0, 5), 0);
  }

  private static void choiceOfPlaces() {
    Watched x = new Watched();
    x.addSite(0, 1, 48);
    x.addRouter();
    x.setSlot(0, 0, 10, 2, 2);
    x.setSlot(0, 1, 11, 3, 9);
    x.setSlot(0, 2, 12, 2, 3);
    x.register(0);
    int[] due = {10, 10, 12, 12, 12, 10, 10};
    for (int flow = 0; flow < due.length; flow++) {
      check.due("flow " + flow, x.send(0, 0, flow), due[flow]);
    }
    check.due("flow 96", x.send(0, 0, 96), 10);
    check.due("flow 97", x.send(0, 0, 97), 12);
    check.due("flow 99", x.send(0, 0, 99), 12);
    check.due("asks", x.router(0, 1), 1);
    x.setSlot(0, 1, 11, 0, 9);
    check.due("the map is as it was", x.send(0, 0, 0), 10);
    check.due("a new map", x.send(0, 0, 0), 11);
  }

  private static void smallestMap() {
    Watched x = withTwoSites();
    x.register(0);
    check.due("by the larger site", x.send(0, 5, 0), 1);
    x.register(1);
    check.due("by the map that is there", x.send(0, 5, 0), 1);
    check.due("asks", x.router(0, 1), 1);
    x.forget(0);
    check.due("by the answer", x.send(0, 5, 0), 2);
    check.due("outside the smaller one", x.send(0, 64, 0), 1);
    check.due("the larger one was used latest", x.map(0, 0, 0), 0);
    check.due("by the smallest map", x.send(0, 63, 0), 2);
    check.due("asks then", x.router(0, 1), 3);
  }

  private static void markedMaps() {
    Watched x = withTwoSites();
    x.register(0);
    x.send(0, 5, 0);
    x.setSlot(0, 1, 3, 9, 1);
    check.due("a slot more", x.send(0, 5, 0), 1);
    check.due("marked", x.map(0, 0, 3), 1);
    check.due("version of the map", x.map(0, 0, 1), 2);
    check.due("asks ahead", x.router(0, 1), 1);
    x.setSlot(0, 0, 1, 9, 1);
    check.due("by a new map", x.send(0, 5, 1), 3);
    check.due("asks", x.router(0, 1), 2);
    check.due("not marked", x.map(0, 0, 3), 0);
    check.due("version", x.map(0, 0, 1), 4);
    check.due("one map", x.router(0, 0), 1);
    check.due("no old map", x.router(0, 5), 0);
    x.setSlot(0, 0, 4, 0, 1);
    check.due("a place with another priority is a place", x.send(0, 5, 1), 3);
    check.due("marked again", x.map(0, 0, 3), 1);
  }

  private static void markedMapOfAnotherSite() {
    Watched x = withTwoSites();
    x.register(0);
    x.send(0, 5, 0);
    x.setSlot(0, 1, 3, 9, 1);
    x.send(0, 5, 0);
    x.register(1);
    check.due("the answer is another site", x.send(0, 5, 0), 2);
    check.due("the new map is first", x.map(0, 0, 0), 1);
    check.due("the marked one stays", x.map(0, 1, 0), 0);
    check.due("and its mark", x.map(0, 1, 3), 1);
    check.due("by the smallest map, not marked", x.send(0, 5, 0), 2);
    check.due("asks", x.router(0, 1), 2);
  }

  private static void markedMapWithoutAnswer() {
    Watched x = withTwoSites();
    x.register(0);
    x.register(1);
    x.send(0, 5, 0);
    x.send(0, 100, 0);
    x.setSlot(1, 1, 3, 9, 1);
    x.send(0, 5, 0);
    check.due("marked", x.map(0, 0, 3), 1);
    x.unregister(0);
    x.unregister(1);
    check.due("by the proxy", x.send(0, 40, 0), 33);
    check.due("the marked map is dropped, no other", x.router(0, 0), 1);
    check.due("the one that is left", x.map(0, 0, 0), 0);
    check.due("asks", x.router(0, 1), 3);
    check.due("it is no old map", x.router(0, 5), 0);
    check.due("letters by a proxy", x.router(0, 4), 1);
  }

  private static void oldMaps() {
    Watched x = withTwoSites();
    x.register(0);
    x.register(1);
    x.send(0, 5, 0);
    x.unregister(1);
    check.due("the site is down", x.send(0, 5, 0), 1);
    check.due("old maps", x.router(0, 5), 1);
    check.due("asks", x.router(0, 1), 2);
    check.due("the old map is dropped", x.router(0, 0), 1);
    check.due("the new map", x.map(0, 0, 0), 0);
    x.setSlot(0, 0, 7, 0, 1);
    check.due("the place is gone", x.send(0, 5, 0), 7);
    check.due("old maps then", x.router(0, 5), 2);
    check.due("a map of the same site", x.map(0, 0, 1), 3);
    x.emptySlot(0, 0);
    x.setSlot(0, 2, 7, 5, 1);
    check.due("the place is in another slot", x.send(0, 5, 0), 7);
    check.due("no old map more", x.router(0, 5), 2);
    check.due("marked", x.map(0, 0, 3), 1);
    check.due("no letter by a proxy", x.router(0, 4), 0);
  }

  private static void oldMapsWithoutAnswer() {
    Watched x = withTwoSites();
    x.register(0);
    x.send(0, 5, 0);
    x.emptySlot(0, 0);
    check.due("all slots are empty", x.send(0, 255, 0), 39);
    check.due("old maps", x.router(0, 5), 1);
    check.due("letters by a proxy", x.router(0, 4), 1);
    check.due("asks", x.router(0, 1), 2);
    check.due("no map is left", x.router(0, 0), 0);
  }

  private static void mapsThatEnded() {
    Watched x = withTwoSites();
    x.register(0);
    x.register(1);
    x.send(0, 5, 0);
    x.pass(3);
    x.send(0, 100, 0);
    x.pass(6);
    x.send(0, 5, 0);
    check.due("it holds in the hour before", x.router(0, 1), 2);
    x.pass(1);
    x.send(0, 5, 0);
    check.due("it does not hold, and the larger one is taken", x.map(0, 0, 0), 0);
    check.due("no ask for that", x.router(0, 1), 2);
    check.due("it is dropped", x.router(0, 0), 1);
    x.pass(3);
    x.send(0, 200, 0);
    check.due("asks", x.router(0, 1), 3);
    x.pass(10);
    check.due("maps ahead", x.router(0, 0), 1);
    x.unregister(0);
    x.send(0, 200, 0);
    check.due("a letter by the proxy drops them too", x.router(0, 0), 0);
    check.due("an ended map is no old one", x.router(0, 5), 0);
  }

  private static void fullCacheThatEnded() {
    Watched x = new Watched();
    x.addRouter();
    x.addSite(8, 1, 10);
    for (int site = 1; site <= 5; site++) {
      x.addSite(site, 1, 48);
    }
    for (int site = 0; site <= 5; site++) {
      x.setSlot(site, 0, site, 0, 1);
      x.register(site);
    }
    for (int site = 1; site <= 5; site++) {
      x.send(0, site, 0);
    }
    x.pass(10);
    check.due("five that do not hold", x.router(0, 0), 5);
    check.due("by the proxy", x.send(0, 8, 0), 32);
    check.due("all are dropped", x.router(0, 0), 0);
  }

  private static void fullCacheWithMarkedMap() {
    Watched x = new Watched();
    x.addRouter();
    x.addSite(0, 16, 48);
    for (int site = 1; site <= 5; site++) {
      x.addSite(16 * site, 16, 48);
    }
    for (int site = 0; site <= 5; site++) {
      x.setSlot(site, 0, site, 0, 1);
      x.register(site);
    }
    for (int site = 0; site <= 4; site++) {
      x.send(0, 16 * site, 0);
    }
    x.setSlot(0, 1, 9, 9, 1);
    x.send(0, 0, 0);
    check.due("a map of its own site in a full cache", x.send(0, 0, 0), 0);
    check.due("all five stay", x.router(0, 0), 5);
    check.due("the last one", x.map(0, 4, 0), 1);
    x.send(0, 80, 0);
    check.due("a sixth", x.router(0, 0), 5);
    check.due("the last one then", x.map(0, 4, 0), 2);
  }

  private static void hours() {
    Watched x = new Watched();
    check.due("pass(0)", x.pass(0), -2);
    check.due("pass(100)", x.pass(100), -2);
    check.due("pass(-1)", x.pass(-1), -2);
    check.due("pass(least)", x.pass(Integer.MIN_VALUE), -2);
    check.due("pass(most)", x.pass(Integer.MAX_VALUE), -2);
    for (int n = 1; n <= 101; n++) {
      check.due("pass(99)", x.pass(99), 99 * n);
    }
    check.due("to hour 10000", x.pass(1), -3);
    check.due("value ahead of not possible", x.pass(100), -2);
    x.undo();
    check.due("hour after undo", x.total(0), 9900);
    check.due("one too many", x.pass(99) - 9999, 0);
    x.undo();
    check.due("pass(98)", x.pass(98), 9998);
    check.due("pass(2)", x.pass(2), -3);
    check.due("pass(1)", x.pass(1), 9999);
    check.due("total(0)", x.total(0), 9999);
  }

  private static void wouldReach() {
    Watched x = withTwoSites();
    x.register(0);
    x.pass(2);
    x.send(0, 5, 0);
    x.pass(1);
    x.register(1);
    x.setMapLife(50);
    String before = Looks.ofAll(x);
    check.due("by the map, now", x.wouldReach(0, 5, 0, 0), 1);
    check.due("by the map, in its last hour", x.wouldReach(0, 5, 0, 8), 1);
    check.due("by the answer, at its end", x.wouldReach(0, 5, 0, 9), 2);
    check.due("outside, last hour of site 0", x.wouldReach(0, 255, 0, 44), 1);
    check.due("outside, site 0 has ended", x.wouldReach(0, 255, 0, 45), 39);
    check.due("last hour of site 1", x.wouldReach(0, 5, 0, 47), 2);
    check.due("site 1 has ended", x.wouldReach(0, 5, 0, 48), 32);
    check.due("after 99 hours", x.wouldReach(0, 100, 99, 99), 35);
    check.dueText("nothing is changed", Looks.ofAll(x), before);
    for (int n = 0; n < 100; n++) {
      x.pass(99);
    }
    x.pass(96);
    check.due("hour 9999", x.total(0), 9999);
    x.register(1);
    check.due("in hour 10046", x.wouldReach(0, 5, 0, 47), 2);
    check.due("in hour 10047", x.wouldReach(0, 5, 0, 48), 32);
  }

  private static void wouldAsk() {
    Watched x = withTwoSites();
    check.due("no site is up", x.wouldAsk(0, 5, 0), 1);
    x.register(0);
    check.due("no map", x.wouldAsk(0, 5, 0), 1);
    x.setSlot(0, 0, 0, 0, 1);
    check.due("no map, and the letter arrives at place 0", x.wouldAsk(0, 5, 0), 1);
    x.setSlot(0, 0, 1, 0, 1);
    x.send(0, 5, 0);
    check.due("a map", x.wouldAsk(0, 5, 99), 0);
    x.setSlot(0, 1, 3, 9, 1);
    String before = Looks.ofAll(x);
    check.due("a map that would become marked", x.wouldAsk(0, 5, 0), 0);
    check.dueText("nothing is changed", Looks.ofAll(x), before);
    x.send(0, 5, 0);
    check.due("a marked map", x.wouldAsk(0, 5, 0), 1);
    x.send(0, 5, 0);
    x.unregister(0);
    check.due("an old map", x.wouldAsk(0, 5, 0), 1);
    x.register(0);
    check.due("up again", x.wouldAsk(0, 5, 0), 0);
    x.pass(10);
    check.due("an ended map", x.wouldAsk(0, 5, 0), 1);
    check.due("it is there yet", x.router(0, 0), 1);
  }
}
