/** Routers, their caches and asking: their words in the terms, and promises 4, 9, 12, 23 and 24. */
final class RouterSentences {
  private RouterSentences() {
  }

  static void tests(Sentences s) {
    s.section("Terms");
    routers(s);
    maps(s);
    endsOfMaps(s);
    asking(s);
    choice(s);
    s.section("Promise 4");
    addRouter(s);
    s.section("Promise 9");
    setMapLife(s);
    s.section("Promise 12");
    forget(s);
    s.section("Promise 23");
    router(s);
    routerErrors(s);
    s.section("Promise 24");
    map(s);
    mapErrors(s);
  }

  /** Compares the sites of the maps in a cache, the first one first, and their number. */
  static void cacheIs(Check c, String when, Watched x, int router, int... sites) {
    c.due(when + ": maps of router " + router, x.router(router, 0), sites.length);
    for (int place = 0; place < sites.length; place++) {
      c.due(when + ": map " + place + " of router " + router, x.map(router, place, 0), sites[place]);
    }
  }

  private static void routers(Sentences s) {
    s.test("Routers. There are at most 4, numbered from 0.", c -> {
      Watched x = new Watched();
      c.due("none at first", x.router(0, 0), -1);
      for (int router = 0; router <= 3; router++) {
        c.due("one more", x.addRouter(), router);
      }
      c.due("a fifth", x.addRouter(), -4);
      c.due("routers", x.total(3), 4);
      c.due("router 3", x.router(3, 0), 0);
      c.due("router 4", x.router(4, 0), -1);
    });
    s.test("A router has a cache of at most 5 maps.", c -> {
      Watched x = Given.sitesOfOneName(7);
      c.due("none at first", x.router(0, 0), 0);
      for (int site = 0; site <= 4; site++) {
        x.send(0, site, 0);
        c.due("one more", x.router(0, 0), site + 1);
      }
      x.send(0, 5, 0);
      c.due("a sixth", x.router(0, 0), 5);
      x.send(0, 6, 0);
      c.due("a seventh", x.router(0, 0), 5);
      c.due("map 4", x.map(0, 4, 0), 2);
      c.due("map 5", x.map(0, 5, 0), -1);
    });
  }

  private static void maps(Sentences s) {
    s.test("A map is a copy of the slots of a site, ", c -> {
      Watched x = Given.oneSite();
      x.setSlot(0, 1, 7, 0, 1);
      x.send(0, 5, 0);
      x.setSlot(0, 0, 1, 9, 1);
      x.setSlot(0, 1, 7, 9, 9);
      x.setSlot(0, 2, 8, 0, 1);
      c.due("the first place of the copy", x.wouldReach(0, 5, 0, 0), 1);
      c.due("the second place of the copy", x.wouldReach(0, 5, 1, 0), 7);
      c.due("the third flow", x.wouldReach(0, 5, 2, 0), 1);
      x.forget(0);
      c.due("the slots as they are now", x.send(0, 5, 0), 8);
    });
    s.test("with its block ", c -> {
      Watched x = new Watched();
      Given.siteUp(x, 64, 32, 7);
      x.addRouter();
      x.send(0, 70, 0);
      int[][] asks = {{63, 1}, {64, 0}, {95, 0}, {96, 1}};
      for (int[] row : asks) {
        c.due("asks for " + row[0], x.wouldAsk(0, row[0], 0), row[1]);
      }
    });
    s.test("and its version as they were when it was made;", c -> {
      Watched x = Given.oneSite();
      x.send(0, 5, 0);
      c.due("version of the map", x.map(0, 0, 1), 2);
      x.setSlot(0, 1, 7, 5, 5);
      c.due("version of the site then", x.site(0, 3), 3);
      c.due("version of the map then", x.map(0, 0, 1), 2);
      x.forget(0);
      x.send(0, 5, 0);
      c.due("version of a new map", x.map(0, 0, 1), 3);
    });
    s.test("it is marked or not.", c -> {
      Watched x = Given.oneSite();
      x.send(0, 5, 0);
      c.due("a new map", x.map(0, 0, 3), 0);
      x.setSlot(0, 1, 7, 5, 5);
      c.due("before a letter", x.map(0, 0, 3), 0);
      x.send(0, 5, 0);
      c.due("after a letter", x.map(0, 0, 3), 1);
      x.send(0, 5, 0);
      c.due("the map in its place", x.map(0, 0, 3), 0);
    });
    s.test("The maps in a cache have an order: the one that was used latest is first.", c -> {
      Watched x = Given.sitesOfOneName(5);
      for (int site = 0; site <= 4; site++) {
        x.send(0, site, 0);
      }
      cacheIs(c, "made one after the other", x, 0, 4, 3, 2, 1, 0);
      x.send(0, 0, 0);
      cacheIs(c, "the last one is used", x, 0, 0, 4, 3, 2, 1);
      x.send(0, 0, 0);
      cacheIs(c, "the first one is used", x, 0, 0, 4, 3, 2, 1);
      x.send(0, 3, 0);
      cacheIs(c, "the middle one is used", x, 0, 3, 0, 4, 2, 1);
      x.wouldReach(0, 1, 0, 0);
      x.wouldAsk(0, 2, 0);
      cacheIs(c, "none is used", x, 0, 3, 0, 4, 2, 1);
    });
    s.test("There is at most one map of a site in a cache.", c -> {
      Watched x = Given.twoSites();
      x.send(0, 5, 0);
      x.send(0, 100, 0);
      cacheIs(c, "two sites", x, 0, 0, 1);
      x.setSlot(0, 1, 9, 9, 9);
      x.send(0, 100, 0);
      x.send(0, 101, 0);
      cacheIs(c, "a map in place of a marked one", x, 0, 0, 1);
      x.unregister(1);
      x.send(0, 5, 0);
      cacheIs(c, "the answer has a map already", x, 0, 0);
    });
  }

  private static void endsOfMaps(Sentences s) {
    s.test("it ends at an hour (it holds in the hours before), which is the hour at which it was made "
        + "plus the setting 0;", c -> {
          for (int life : new int[] {1, 2, 10, 99, 100}) {
            Watched x = Given.oneSite();
            x.pass(7);
            x.setMapLife(life);
            x.send(0, 5, 0);
            c.due("its end", x.map(0, 0, 2), 7 + life);
            c.due("it holds when it is made", x.map(0, 0, 4), 1);
            Given.untilHour(x, 7 + life - 1);
            c.due("it holds in the hour before", x.map(0, 0, 4), 1);
            x.pass(1);
            c.due("it does not hold at its end", x.map(0, 0, 4), 0);
            c.due("its end stays", x.map(0, 0, 2), 7 + life);
          }
          Watched y = Given.oneSite();
          y.setMapLife(100);
          Given.untilHour(y, 9999);
          y.register(0);
          y.send(0, 5, 0);
          c.due("an end beyond the last hour", y.map(0, 0, 2), 10099);
        });
    s.test("Setting 0 is the life of maps (1 to 100 hours; ", c -> {
      Watched x = new Watched();
      c.due("the shortest", x.setMapLife(1), 10);
      c.due("the longest", x.setMapLife(100), 1);
      for (int life : Given.outside(1, 100)) {
        c.due("life " + life, x.setMapLife(life), -2);
      }
      c.due("setting 0", x.total(10), 100);
    });
    s.test("at first 10).", c -> {
      Watched x = Given.oneSite();
      c.due("setting 0", x.total(10), 10);
      x.send(0, 5, 0);
      c.due("end of a map", x.map(0, 0, 2), 10);
    });
  }

  private static void asking(Sentences s) {
    s.test("Asking. When a router asks for a name, its asks become 1 more, and the hops of the name are "
        + "added to its hops.", c -> {
          Watched x = Given.chainOfServers();
          x.addRouter();
          x.addRouter();
          int hops = 0;
          for (int server = 0; server <= 7; server++) {
            hops += server + 1;
            x.send(1, (256 >> server) - 1, 0);
            c.due("asks", x.router(1, 1), server + 1);
            c.due("hops", x.router(1, 2), hops);
          }
          c.due("asks of the other router", x.router(0, 1), 0);
          Given.siteUp(x, 0, 2, 1);
          x.send(1, 0, 0);
          c.due("hops, also with an answer", x.router(1, 2), hops + 8);
          x.send(1, 0, 0);
          c.due("without an ask", x.router(1, 2), hops + 8);
        });
    s.test("If there is an answer, a new map of this site is made, which is the first one in the cache "
        + "then;", c -> {
          Watched x = Given.twoSites();
          x.send(0, 100, 0);
          cacheIs(c, "the first map", x, 0, 0);
          x.send(0, 200, 0);
          cacheIs(c, "no ask", x, 0, 0);
          x.unregister(0);
          x.unregister(1);
          x.forget(0);
          x.send(0, 5, 0);
          cacheIs(c, "no answer", x, 0);
          x.register(1);
          x.send(0, 63, 0);
          x.register(0);
          x.send(0, 64, 0);
          cacheIs(c, "the second map", x, 0, 0, 1);
        });
    s.test("a map of this site that is there is dropped before that;", c -> {
      Watched x = Given.sitesOfOneName(5);
      for (int site = 0; site <= 4; site++) {
        x.send(0, site, 0);
      }
      x.setSlot(0, 1, 30, 9, 9);
      x.send(0, 0, 0);
      cacheIs(c, "the marked map is the first of 5", x, 0, 0, 4, 3, 2, 1);
      x.send(0, 4, 0);
      x.send(0, 0, 0);
      cacheIs(c, "no other map is dropped", x, 0, 0, 4, 3, 2, 1);
      c.due("it is a new map", x.map(0, 0, 1), 3);
    });
    s.test("if there are 5 then, the last one is dropped.", c -> {
      Watched x = Given.sitesOfOneName(7);
      for (int site = 0; site <= 3; site++) {
        x.send(0, site, 0);
      }
      x.send(0, 4, 0);
      cacheIs(c, "there were 4", x, 0, 4, 3, 2, 1, 0);
      x.send(0, 5, 0);
      cacheIs(c, "there were 5", x, 0, 5, 4, 3, 2, 1);
      x.send(0, 1, 0);
      x.send(0, 6, 0);
      cacheIs(c, "there were 5, the last one was used", x, 0, 6, 1, 5, 4, 3);
    });
  }

  private static void choice(Sentences s) {
    s.test("The choice of a map for a flow (0 to 99): ", c -> {
      Watched x = Given.oneSite();
      x.setSlot(0, 0, 1, 0, 9);
      x.setSlot(0, 1, 2, 0, 1);
      c.due("flow 0", x.send(0, 5, 0), 1);
      c.due("flow 8", x.send(0, 5, 8), 1);
      c.due("flow 9", x.send(0, 5, 9), 2);
      c.due("flow 98", x.send(0, 5, 98), 1);
      c.due("flow 99", x.send(0, 5, 99), 2);
      for (int flow : Given.outside(0, 99)) {
        c.due("flow " + flow, x.send(0, 5, flow), -2);
        c.due("flow " + flow + ", wouldReach", x.wouldReach(0, 5, flow, 0), -2);
        c.due("flow " + flow + ", wouldAsk", x.wouldAsk(0, 5, flow), -2);
      }
    });
    s.test("of its slots that are not empty, only those with the lowest priority count;", c -> {
      placesFor(c, new int[][] {{1, 9, 1}, {2, 8, 1}, {3, 9, 1}}, 2, 2, 2, 2);
      placesFor(c, new int[][] {{1, 0, 1}, {2, 1, 9}, {3, 9, 9}}, 1, 1, 1, 1);
      placesFor(c, new int[][] {{1, 0, 1}, {2, 1, 9}, {3, 0, 1}}, 1, 3, 1, 3);
      placesFor(c, new int[][] {null, {2, 9, 9}, null}, 2, 2, 2, 2);
      placesFor(c, new int[][] {null, {2, 9, 1}, {3, 9, 1}}, 2, 3, 2, 3);
      placesFor(c, new int[][] {null, null, {0, 9, 1}}, 0, 0, 0, 0);
      placesFor(c, new int[][] {{1, 2, 1}, null, {3, 2, 2}}, 1, 3, 3, 1, 3, 3);
    });
    s.test("their weights are added up in the order of the slots;", c -> {
      placesFor(c, new int[][] {{1, 5, 1}, {2, 5, 2}, {3, 5, 3}}, 1, 2, 2, 3, 3, 3, 1, 2, 2);
      placesFor(c, new int[][] {{3, 5, 3}, {2, 5, 2}, {1, 5, 1}}, 3, 3, 3, 2, 2, 1, 3, 3, 3);
      placesFor(c, new int[][] {{3, 5, 1}, {2, 6, 9}, {1, 5, 1}}, 3, 1, 3, 1, 3, 1);
      placesFor(c, new int[][] {{4, 5, 1}, {2, 5, 1}, {4, 5, 2}}, 4, 2, 4, 4, 4, 2, 4, 4);
    });
    s.test("the place is that of the first slot at which the sum is above the flow modulo the sum of all "
        + "weights that count.", c -> {
          for (int weights = 0; weights < 729; weights += 7) {
            int[] w = {1 + weights % 9, 1 + weights / 9 % 9, 1 + weights / 81};
            Watched x = Given.oneSite();
            for (int slot = 0; slot <= 2; slot++) {
              x.setSlot(0, slot, slot, 7, w[slot]);
            }
            int sum = w[0] + w[1] + w[2];
            for (int flow = 0; flow <= 99; flow++) {
              int rest = flow % sum;
              int due = rest < w[0] ? 0 : rest < w[0] + w[1] ? 1 : 2;
              c.due("flow " + flow + " of weights " + weights, x.send(0, 5, flow), due);
            }
          }
        });
  }

  /** Sets the slots (place, priority, weight) of a site and compares the places of the first flows. */
  private static void placesFor(Check c, int[][] slots, int... due) {
    Watched x = Given.oneSite();
    x.emptySlot(0, 0);
    for (int slot = 0; slot <= 2; slot++) {
      if (slots[slot] != null) {
        x.setSlot(0, slot, slots[slot][0], slots[slot][1], slots[slot][2]);
      }
    }
    for (int flow = 0; flow < due.length; flow++) {
      c.due("by a new map, flow " + flow, x.wouldReach(0, 5, flow, 0), due[flow]);
    }
    for (int flow = 0; flow < due.length; flow++) {
      c.due("flow " + flow, x.send(0, 5, flow), due[flow]);
    }
  }

  private static void addRouter(Sentences s) {
    s.test("int addRouter(): Adds a router with an empty cache.", c -> {
      Watched x = Given.oneSite();
      x.send(0, 5, 0);
      x.addRouter();
      for (int property = 0; property <= 5; property++) {
        c.due("router(1, " + property + ")", x.router(1, property), 0);
      }
      c.due("no map", x.map(1, 0, 0), -1);
      c.due("it asks", x.wouldAsk(1, 5, 0), 1);
      c.due("routers", x.total(3), 2);
      placeOfAnUndoneRouter(c);
    });
    s.recorded(Given::world, x -> x.addRouter());
    s.test("Returns its number;", c -> {
      Watched x = new Watched();
      for (int router = 0; router <= 3; router++) {
        c.due("one more", x.addRouter(), router);
      }
    });
    s.test("FULL if there are 4.", c -> {
      Watched x = Given.fourRouters();
      c.due("there are 4", x.addRouter(), -4);
      x.undo();
      c.due("there are 3", x.addRouter(), 3);
      c.due("there are 4 again", x.addRouter(), -4);
    });
  }

  /** A router gets the number of one that was undone, and nothing else of it. */
  private static void placeOfAnUndoneRouter(Check c) {
    Watched x = new Watched();
    Given.siteUp(x, 0, 128, 1);
    x.save(0);
    x.addRouter();
    x.send(0, 5, 0);
    x.send(0, 200, 0);
    x.unregister(0);
    x.send(0, 5, 0);
    x.register(0);
    x.send(0, 5, 0);
    x.restore(0);
    c.due("its number", x.addRouter(), 0);
    for (int property = 0; property <= 5; property++) {
      c.due("router(0, " + property + ") then", x.router(0, property), 0);
    }
    c.due("no map then", x.map(0, 0, 0), -1);
  }

  private static void setMapLife(Sentences s) {
    s.test("int setMapLife(int life): Sets the setting 0;", c -> {
      Watched x = Given.sitesOfOneName(2);
      x.setMapLife(37);
      c.due("setting 0", x.total(10), 37);
      x.pass(5);
      x.send(0, 1, 0);
      c.due("end of a map", x.map(0, 0, 2), 42);
    });
    s.test("maps that are there stay as they are.", c -> {
      Watched x = Given.sitesOfOneName(2);
      x.send(0, 0, 0);
      x.setMapLife(1);
      c.due("its end", x.map(0, 0, 2), 10);
      x.pass(5);
      c.due("it holds", x.map(0, 0, 4), 1);
      x.setMapLife(100);
      x.pass(5);
      c.due("it does not hold", x.map(0, 0, 4), 0);
    });
    s.recorded(Given::world, x -> x.setMapLife(99));
    s.test("life: 1 to 100", c -> {
      Watched x = new Watched();
      for (int life = 1; life <= 100; life++) {
        c.due("life " + life, x.setMapLife(life), life == 1 ? 10 : life - 1);
      }
    });
    s.test("Returns the value before;", c -> {
      Watched x = new Watched();
      c.due("the first", x.setMapLife(100), 10);
      c.due("the most", x.setMapLife(1), 100);
      c.due("the least", x.setMapLife(1), 1);
      c.due("the same", x.setMapLife(5), 1);
    });
    s.test("BAD_VALUE if life is out of range.", c -> {
      Watched x = new Watched();
      for (int life : Given.outside(1, 100)) {
        c.due("life " + life, x.setMapLife(life), -2);
      }
      c.due("setting 0", x.total(10), 10);
    });
  }

  private static void forget(Sentences s) {
    s.test("int forget(int router): Empties the cache of a router.", c -> {
      Watched x = Given.sitesOfOneName(5);
      x.addRouter();
      for (int site = 0; site <= 4; site++) {
        x.send(0, site, 0);
        x.send(1, site, 0);
      }
      x.forget(0);
      cacheIs(c, "the router", x, 0);
      cacheIs(c, "the other router", x, 1, 4, 3, 2, 1, 0);
      c.due("no map", x.map(0, 0, 0), -1);
      c.due("it asks", x.wouldAsk(0, 4, 0), 1);
      c.due("the other one does not", x.wouldAsk(1, 4, 0), 0);
      int[] due = {0, 5, 5, 5, 0, 0};
      for (int property = 0; property <= 5; property++) {
        c.due("router(0, " + property + ")", x.router(0, property), due[property]);
      }
    });
    s.recorded(Given::world, x -> x.forget(0));
    s.test("router: a router", c -> {
      Watched x = Given.fourRouters();
      Given.siteUp(x, 0, 256, 1);
      for (int router = 0; router <= 3; router++) {
        x.send(router, 0, 0);
        c.due("router " + router, x.forget(router), 1);
      }
    });
    s.test("Returns the number of maps that it had (also of those that do not hold);", c -> {
      Watched x = Given.sitesOfOneName(5);
      c.due("none", x.forget(0), 0);
      for (int site = 0; site <= 4; site++) {
        x.send(0, site, 0);
      }
      c.due("five", x.forget(0), 5);
      x.send(0, 0, 0);
      x.pass(9);
      x.send(0, 1, 0);
      x.pass(1);
      c.due("one that holds, one that does not", x.forget(0), 2);
      x.send(0, 2, 0);
      x.pass(10);
      c.due("one that does not", x.forget(0), 1);
      c.due("none then", x.forget(0), 0);
    });
    s.test("BAD_INDEX if there is no such router.", c -> {
      c.due("without routers", new Watched().forget(0), -1);
      Watched x = Given.fourRouters();
      for (int router : Given.outside(0, 3)) {
        c.due("router " + router, x.forget(router), -1);
      }
      x.undo();
      c.due("a router that is no more", x.forget(3), -1);
    });
  }

  private static void router(Sentences s) {
    s.test("int router(int router, int property): Returns a property of a router. router: a router",
        c -> {
          Watched x = Given.fourRouters();
          for (int router = 0; router <= 3; router++) {
            for (int n = 0; n < router; n++) {
              x.send(router, 0, 0);
            }
          }
          for (int router = 0; router <= 3; router++) {
            c.due("letters of " + router, x.router(router, 3), router);
          }
        });
    s.test("property: 0 the number of maps in its cache (also of those that do not hold), ", c -> {
      Watched x = Given.sitesOfOneName(5);
      for (int site = 0; site <= 4; site++) {
        c.due("maps", x.router(0, 0), site);
        x.send(0, site, 0);
      }
      c.due("five", x.router(0, 0), 5);
      x.pass(10);
      c.due("five that do not hold", x.router(0, 0), 5);
      x.send(0, 4, 0);
      c.due("they were dropped", x.router(0, 0), 1);
    });
    s.test("1 its asks so far, 2 its hops so far, ", c -> {
      Watched x = Given.oneSite();
      x.addServer(0, 0, 128);
      x.addServer(1, 0, 64);
      x.send(0, 0, 0);
      c.due("without an answer, asks", x.router(0, 1), 1);
      c.due("without an answer, hops", x.router(0, 2), 3);
      x.send(0, 128, 0);
      c.due("with an answer, asks", x.router(0, 1), 2);
      c.due("with an answer, hops", x.router(0, 2), 4);
      x.send(0, 64, 0);
      c.due("by a map, asks", x.router(0, 1), 2);
      x.unregister(0);
      x.send(0, 64, 0);
      c.due("by an old map, asks", x.router(0, 1), 3);
      c.due("by an old map, hops", x.router(0, 2), 6);
      x.wouldAsk(0, 0, 0);
      x.forget(0);
      c.due("nothing else asks", x.router(0, 1), 3);
    });
    s.test("3 the letters that it sent so far, 4 those of them that went by a proxy, ", c -> {
      Watched x = Given.twoSites();
      x.unregister(0);
      int[] names = {64, 63, 255, 0, 1};
      int[] proxied = {1, 1, 2, 2, 2};
      for (int n = 0; n < names.length; n++) {
        x.send(0, names[n], 0);
        c.due("letters", x.router(0, 3), n + 1);
        c.due("by a proxy", x.router(0, 4), proxied[n]);
      }
      x.unregister(1);
      x.send(0, 0, 0);
      c.due("an old map, then by a proxy", x.router(0, 4), 3);
      x.send(0, 256, 0);
      x.wouldReach(0, 0, 0, 0);
      c.due("an error and what could be are no letters", x.router(0, 3), 6);
    });
    s.test("5 how many old maps it met so far (step 4)", c -> {
      Watched x = Given.twoSites();
      x.send(0, 5, 0);
      x.unregister(1);
      c.due("before a letter", x.router(0, 5), 0);
      x.send(0, 5, 0);
      c.due("an old map, with an answer", x.router(0, 5), 1);
      x.unregister(0);
      x.send(0, 5, 0);
      c.due("an old map, without an answer", x.router(0, 5), 2);
      x.send(0, 5, 0);
      c.due("no map", x.router(0, 5), 2);
      x.register(0);
      x.send(0, 5, 0);
      x.setSlot(0, 1, 9, 9, 9);
      x.send(0, 5, 0);
      x.send(0, 5, 0);
      x.pass(10);
      x.send(0, 5, 0);
      c.due("marked ones and ended ones are not old", x.router(0, 5), 2);
    });
  }

  private static void routerErrors(Sentences s) {
    s.plain("Returns the property;");
    s.test("BAD_INDEX if there is no such router;", c -> {
      c.due("without routers", new Watched().router(0, 0), -1);
      Watched x = Given.fourRouters();
      for (int router : Given.outside(0, 3)) {
        c.due("router " + router, x.router(router, 0), -1);
      }
      x.undo();
      c.due("a router that is no more", x.router(3, 0), -1);
    });
    s.test("BAD_VALUE if property is out of range.", c -> {
      Watched x = Given.fourRouters();
      for (int property : Given.outside(0, 5)) {
        c.due("property " + property, x.router(3, property), -2);
      }
    });
  }

  private static void map(Sentences s) {
    s.test("int map(int router, int place, int property): Returns a property of a map in a cache. "
        + "router: a router", c -> {
          Watched x = Given.fourRouters();
          for (int site = 0; site <= 3; site++) {
            Given.siteUp(x, site, 1, 1);
            x.send(site, site, 0);
          }
          for (int router = 0; router <= 3; router++) {
            c.due("router " + router, x.map(router, 0, 0), router);
          }
        });
    s.test("place: 0 for the first one in the order, and so on", c -> {
      Watched x = Given.sitesOfOneName(5);
      for (int site = 0; site <= 4; site++) {
        x.send(0, site, 0);
      }
      for (int place = 0; place <= 4; place++) {
        c.due("place " + place, x.map(0, place, 0), 4 - place);
      }
    });
    s.test("property: 0 its site, 1 its version, ", c -> {
      Watched x = Given.eightSites();
      x.addRouter();
      x.setSlot(7, 0, 1, 1, 1);
      x.setSlot(7, 1, 1, 1, 1);
      x.setSlot(0, 0, 1, 1, 1);
      x.register(7);
      x.register(0);
      x.send(0, 0, 0);
      x.send(0, 56, 0);
      c.due("site of the first", x.map(0, 0, 0), 7);
      c.due("version of the first", x.map(0, 0, 1), 3);
      c.due("site of the second", x.map(0, 1, 0), 0);
      c.due("version of the second", x.map(0, 1, 1), 2);
    });
    s.test("2 the hour at which it ends, ", c -> {
      Watched x = Given.sitesOfOneName(2);
      x.send(0, 0, 0);
      x.pass(3);
      x.setMapLife(1);
      x.send(0, 1, 0);
      c.due("the first", x.map(0, 0, 2), 4);
      c.due("the second", x.map(0, 1, 2), 10);
    });
    s.test("3 1 if it is marked and 0 if not, ", c -> {
      Watched x = Given.sitesOfOneName(2);
      x.send(0, 0, 0);
      x.send(0, 1, 0);
      x.setSlot(0, 1, 9, 9, 9);
      x.send(0, 0, 0);
      c.due("the first", x.map(0, 0, 3), 1);
      c.due("the second", x.map(0, 1, 3), 0);
    });
    s.test("4 1 if it holds now and 0 if not", c -> {
      Watched x = Given.sitesOfOneName(2);
      x.send(0, 0, 0);
      x.pass(1);
      x.send(0, 1, 0);
      x.pass(8);
      c.due("the second, in its last hour", x.map(0, 1, 4), 1);
      x.pass(1);
      c.due("the second, at its end", x.map(0, 1, 4), 0);
      c.due("the first, in its last hour", x.map(0, 0, 4), 1);
      x.pass(1);
      c.due("the first, at its end", x.map(0, 0, 4), 0);
    });
  }

  private static void mapErrors(Sentences s) {
    s.plain("Returns the property;");
    s.test("BAD_INDEX if there is no such router or map;", c -> {
      c.due("without routers", new Watched().map(0, 0, 0), -1);
      Watched x = Given.sitesOfOneName(5);
      c.due("without maps", x.map(0, 0, 0), -1);
      for (int site = 0; site <= 4; site++) {
        c.due("the place ahead of a letter", x.map(0, site, 0), -1);
        x.send(0, site, 0);
        c.due("the place after a letter", x.map(0, site, 0), 0);
      }
      for (int place : Given.outside(0, 4)) {
        c.due("place " + place, x.map(0, place, 0), -1);
      }
      for (int router : Given.outside(0, 0)) {
        c.due("router " + router, x.map(router, 0, 0), -1);
      }
      x.addRouter();
      c.due("a router without maps", x.map(1, 0, 0), -1);
      x.forget(0);
      c.due("maps that were forgotten", x.map(0, 0, 0), -1);
    });
    s.test("BAD_VALUE if property is out of range.", c -> {
      Watched x = Given.oneSite();
      x.send(0, 5, 0);
      for (int property : Given.outside(0, 4)) {
        c.due("property " + property, x.map(0, 0, property), -2);
      }
    });
  }
}
