/** Letters and hours: the steps of sending, and promises 10, 11, 29 and 30. */
final class LetterSentences {
  private LetterSentences() {
  }

  static void tests(Sentences s) {
    s.section("Terms");
    s.plain("Sending. A letter is sent by a router to a name, with a flow, like this.");
    firstStep(s);
    secondStep(s);
    secondStepWithAnswer(s);
    thirdStep(s);
    fourthStep(s);
    s.section("Promise 10");
    send(s);
    sendErrors(s);
    s.section("Promise 11");
    pass(s);
    s.section("Promise 29");
    wouldReach(s);
    wouldReachArguments(s);
    s.section("Promise 30");
    wouldAsk(s);
    wouldAskArguments(s);
  }

  private static void cacheIs(Check c, String when, Watched x, int router, int... sites) {
    RouterSentences.cacheIs(c, when, x, router, sites);
  }

  private static void firstStep(Sentences s) {
    s.test("Maps of its cache that do not hold now are dropped.", c -> {
      Watched x = Given.sitesOfOneName(5);
      x.addRouter();
      x.send(1, 0, 0);
      x.send(0, 0, 0);
      x.send(0, 1, 0);
      x.pass(1);
      x.send(0, 2, 0);
      x.send(0, 1, 0);
      x.pass(8);
      x.send(0, 200, 0);
      cacheIs(c, "in their last hour", x, 0, 1, 2, 0);
      x.pass(1);
      cacheIs(c, "at their end, ahead of a letter", x, 0, 1, 2, 0);
      x.send(0, 200, 0);
      cacheIs(c, "at their end", x, 0, 2);
      cacheIs(c, "of a router that sent no letter", x, 1, 0);
      x.send(0, 2, 0);
      c.due("one that is left is no ask", x.router(0, 1), 5);
      x.pass(1);
      x.send(0, 3, 0);
      cacheIs(c, "the last one ended, and a new one", x, 0, 3);
      c.due("they are no old maps", x.router(0, 5), 0);
    });
    s.test("Of those that are left and whose block has the name the one with the smallest block is "
        + "taken.", c -> {
          Watched x = Given.twoSites();
          Given.siteUp(x, 32, 16, 3);
          x.send(0, 40, 0);
          x.pass(1);
          x.send(0, 63, 0);
          x.send(0, 64, 0);
          cacheIs(c, "three maps", x, 0, 0, 1, 2);
          int[][] due = {{31, 2}, {32, 3}, {47, 3}, {48, 2}, {63, 2}, {64, 1}, {255, 1}};
          for (int[] row : due) {
            c.due("letter to " + row[0], x.send(0, row[0], 0), row[1]);
          }
          c.due("asks", x.router(0, 1), 3);
          x.addServer(0, 0, 64);
          c.due("a name that has another home since", x.send(0, 31, 0), 2);
          x.addServer(0, 128, 64);
          c.due("a name without an answer", x.answer(130), -5);
          c.due("but with a map", x.send(0, 130, 0), 1);
          x.pass(9);
          c.due("the smallest one has ended", x.send(0, 40, 0), 2);
          c.due("no ask for that", x.router(0, 1), 3);
        });
  }

  private static void secondStep(Sentences s) {
    s.test("If there is none, or it is marked, the router asks for the name.", c -> {
      Watched x = Given.twoSites();
      x.send(0, 64, 0);
      c.due("there is none", x.router(0, 1), 1);
      x.send(0, 5, 0);
      c.due("a map of a larger block is one", x.router(0, 1), 1);
      x.forget(0);
      x.send(0, 63, 0);
      x.send(0, 64, 0);
      c.due("none has the name", x.router(0, 1), 3);
      x.setSlot(1, 1, 9, 9, 9);
      x.send(0, 5, 0);
      c.due("it becomes marked", x.router(0, 1), 3);
      x.send(0, 5, 0);
      c.due("it is marked, and a larger one is not", x.router(0, 1), 4);
      x.send(0, 5, 0);
      c.due("it is not marked", x.router(0, 1), 4);
      c.due("by a map of the site as it is", x.map(0, 0, 1), 3);
    });
    s.test("If there is no answer, the letter goes by the proxy: a marked map that was taken is dropped;",
        c -> {
          Watched x = Given.twoSites();
          x.send(0, 5, 0);
          x.send(0, 64, 0);
          x.setSlot(0, 1, 9, 9, 9);
          x.setSlot(1, 1, 9, 9, 9);
          x.send(0, 64, 0);
          x.send(0, 5, 0);
          c.due("both are marked", x.map(0, 0, 3) + x.map(0, 1, 3), 2);
          x.unregister(0);
          x.unregister(1);
          c.due("by the proxy", x.send(0, 5, 0), 32);
          cacheIs(c, "the one that was taken is dropped", x, 0, 0);
          c.due("it is no old map", x.router(0, 5), 0);
          c.due("letters by a proxy", x.router(0, 4), 1);
          x.register(1);
          c.due("the other one is taken and marked", x.send(0, 64, 0), 34);
          cacheIs(c, "none is left", x, 0);
          c.due("none was taken", x.send(0, 64, 0), 34);
        });
    s.test("the place is 32 plus the number of the name divided by 32, and this is the end.", c -> {
      Watched x = new Watched();
      x.addRouter();
      for (int name = 0; name <= 255; name++) {
        c.due("letter to " + name, x.send(0, name, name % 100), name < 32 ? 32 : name < 64 ? 33
            : name < 96 ? 34 : name < 128 ? 35 : name < 160 ? 36 : name < 192 ? 37
            : name < 224 ? 38 : 39);
      }
      int[] due = {0, 256, 256, 256, 256, 0};
      for (int property = 0; property <= 5; property++) {
        c.due("router(0, " + property + ")", x.router(0, property), due[property]);
      }
    });
  }

  private static void secondStepWithAnswer(Sentences s) {
    s.test("Otherwise the new map is taken ", c -> {
      Watched x = Given.oneSite();
      c.due("without a map", x.send(0, 5, 0), 1);
      x.setSlot(0, 1, 9, 9, 9);
      x.send(0, 5, 0);
      x.setSlot(0, 0, 7, 0, 1);
      c.due("with a marked map", x.send(0, 5, 0), 7);
      c.due("it is not old", x.router(0, 5), 0);
      c.due("version", x.map(0, 0, 1), 4);
      c.due("mark", x.map(0, 0, 3), 0);
      c.due("asks", x.router(0, 1), 2);
    });
    s.test("(a marked map of another site stays in the cache).", c -> {
      Watched x = Given.twoSites();
      x.send(0, 5, 0);
      x.send(0, 64, 0);
      x.setSlot(1, 1, 9, 9, 9);
      x.send(0, 5, 0);
      x.unregister(1);
      c.due("the answer is a larger site, which has a map", x.send(0, 5, 0), 1);
      cacheIs(c, "the marked one stays", x, 0, 0, 1);
      c.due("its mark", x.map(0, 1, 3), 1);
      c.due("it is taken again", x.send(0, 5, 0), 1);
      c.due("asks", x.router(0, 1), 4);
      x.register(1);
      c.due("the answer is its own site", x.send(0, 5, 0), 2);
      cacheIs(c, "it was dropped", x, 0, 1, 0);
      c.due("no mark", x.map(0, 0, 3), 0);
      marksInFullCache(c);
    });
  }

  /** Five maps, the last one marked: a map of another site pushes it out. */
  private static void marksInFullCache(Check c) {
    Watched x = new Watched();
    x.addRouter();
    Given.siteUp(x, 0, 16, 1);
    for (int site = 1; site <= 4; site++) {
      Given.siteUp(x, 16 * site, 16, 1 + site);
    }
    x.send(0, 0, 0);
    x.setSlot(0, 1, 9, 9, 9);
    x.send(0, 0, 0);
    for (int site = 1; site <= 4; site++) {
      x.send(0, 16 * site, 0);
    }
    cacheIs(c, "the last one is marked", x, 0, 4, 3, 2, 1, 0);
    Given.siteUp(x, 0, 8, 20);
    c.due("the answer is another site", x.send(0, 0, 0), 20);
    cacheIs(c, "there were 5", x, 0, 5, 4, 3, 2, 1);
  }

  private static void thirdStep(Sentences s) {
    s.test("The place is chosen by the map that was taken, which becomes the first one in the cache.",
        c -> {
          Watched x = Given.sitesOfOneName(3);
          x.setSlot(1, 1, 20, 0, 2);
          for (int site = 0; site <= 2; site++) {
            x.send(0, site, 0);
          }
          c.due("by its weights, flow 0", x.send(0, 1, 0), 11);
          c.due("flow 1", x.send(0, 1, 1), 20);
          c.due("flow 2", x.send(0, 1, 2), 20);
          c.due("flow 99", x.send(0, 1, 99), 11);
          cacheIs(c, "it is the first one", x, 0, 1, 2, 0);
          x.send(0, 0, 0);
          cacheIs(c, "the last one was taken", x, 0, 0, 1, 2);
        });
    s.test("If its site is up, ", c -> {
      Watched x = Given.oneSite();
      x.setMapLife(100);
      x.send(0, 5, 0);
      x.pass(47);
      c.due("in its last hour", x.send(0, 5, 0), 1);
      c.due("no old map", x.router(0, 5), 0);
      x.pass(1);
      c.due("at its end", x.send(0, 5, 0), 32);
      c.due("an old map", x.router(0, 5), 1);
      x.register(0);
      x.send(0, 5, 0);
      x.unregister(0);
      x.register(0);
      c.due("registered again", x.send(0, 5, 0), 1);
      c.due("no old map more", x.router(0, 5), 1);
      c.due("no mark, its version is the same", x.map(0, 0, 3), 0);
    });
    s.test("and a slot of it has this place, the letter arrives: ", c -> {
      for (int slot = 0; slot <= 2; slot++) {
        Watched x = Given.oneSite();
        x.send(0, 5, 0);
        x.emptySlot(0, 0);
        x.setSlot(0, slot, 1, 9, 9);
        c.due("it is in slot " + slot, x.send(0, 5, 0), 1);
        c.due("no old map", x.router(0, 5), 0);
        c.due("no ask", x.router(0, 1), 1);
      }
      Watched y = Given.oneSite();
      y.send(0, 5, 0);
      y.setSlot(0, 1, 2, 0, 1);
      c.due("another slot has a lower priority than it", y.setSlot(0, 0, 1, 9, 1), 4);
      c.due("its priority is of no account", y.send(0, 5, 1), 1);
      Watched z = Given.oneSite();
      z.setSlot(0, 0, 0, 0, 1);
      z.send(0, 5, 0);
      z.emptySlot(0, 0);
      z.setSlot(0, 1, 3, 0, 1);
      c.due("an empty slot does not have place 0", z.send(0, 5, 0), 3);
      c.due("an old map", z.router(0, 5), 1);
    });
    s.test("if the version of the map is not that of the site, the map becomes marked; this is the end.",
        c -> {
          Watched x = Given.oneSite();
          x.send(0, 5, 0);
          x.send(0, 5, 0);
          c.due("the same version", x.map(0, 0, 3), 0);
          x.setSlot(0, 0, 1, 0, 1);
          c.due("the same slot is set again", x.send(0, 5, 0), 1);
          c.due("one version later", x.map(0, 0, 3), 1);
          c.due("version of the map", x.map(0, 0, 1), 2);
          c.due("no ask", x.router(0, 1), 1);
          c.due("a new map", x.send(0, 5, 0), 1);
          c.due("the map is not marked", x.map(0, 0, 3), 0);
          x.save(0);
          x.setSlot(0, 1, 9, 9, 9);
          x.send(0, 5, 0);
          c.due("two slots, one version later", x.map(0, 0, 3), 1);
        });
  }

  private static void fourthStep(Sentences s) {
    s.test("Otherwise the map is old: it is dropped, and the router asks for the name.", c -> {
      Watched x = Given.sitesOfOneName(3);
      x.addServer(0, 0, 2);
      for (int site = 0; site <= 2; site++) {
        x.send(0, site, 0);
      }
      int hops = x.router(0, 2);
      x.unregister(1);
      x.send(0, 1, 0);
      cacheIs(c, "it was dropped, the others are as before", x, 0, 2, 0);
      c.due("asks", x.router(0, 1), 4);
      c.due("hops", x.router(0, 2), hops + 2);
      c.due("old maps", x.router(0, 5), 1);
      x.setSlot(0, 0, 30, 0, 1);
      c.due("its place is no more", x.send(0, 0, 0), 30);
      cacheIs(c, "a map of the same site", x, 0, 0, 2);
      c.due("version", x.map(0, 0, 1), 3);
      c.due("old maps then", x.router(0, 5), 2);
    });
    s.test("If there is no answer, the letter goes by the proxy, as above.", c -> {
      Watched x = Given.oneSite();
      for (int name : new int[] {0, 31, 32, 128, 255}) {
        x.register(0);
        x.send(0, name, 0);
        int proxied = x.router(0, 4);
        x.unregister(0);
        c.due("letter to " + name, x.send(0, name, 0), 32 + name / 32);
        cacheIs(c, "no map is left", x, 0);
        c.due("by a proxy", x.router(0, 4), proxied + 1);
      }
      c.due("letters", x.router(0, 3), 10);
      c.due("asks", x.router(0, 1), 10);
      c.due("old maps", x.router(0, 5), 5);
    });
    s.test("Otherwise it arrives at the place that is chosen by the new map.", c -> {
      Watched x = Given.twoSites();
      x.setSlot(0, 1, 3, 0, 1);
      x.send(0, 5, 0);
      x.unregister(1);
      c.due("flow 99 to another site", x.send(0, 5, 99), 3);
      cacheIs(c, "its map is the first one", x, 0, 0);
      x.setSlot(0, 0, 10, 0, 1);
      x.setSlot(0, 1, 11, 0, 1);
      c.due("flow 98 to other places", x.send(0, 5, 98), 10);
      c.due("the new map is not marked", x.map(0, 0, 3), 0);
      c.due("letters by a proxy", x.router(0, 4), 0);
      c.due("old maps", x.router(0, 5), 2);
    });
  }

  private static void send(Sentences s) {
    s.test("int send(int router, int name, int flow): Sends a letter.", c -> {
      Watched x = Given.oneSite();
      x.send(0, 5, 0);
      int[] due = {1, 1, 1, 1, 0, 0};
      for (int property = 0; property <= 5; property++) {
        c.due("router(0, " + property + ")", x.router(0, property), due[property]);
      }
      c.due("letters", x.total(7), 1);
    });
    s.recorded(Given::world, x -> x.send(0, 70, 5));
    s.test("router: a router ", c -> {
      Watched x = Given.fourRouters();
      for (int router = 0; router <= 3; router++) {
        c.due("router " + router, x.send(router, 5, 5), 32);
        c.due("its letters", x.router(router, 3), 1);
      }
    });
    s.test("name: 0 to 255 ", c -> {
      Watched x = Given.fourRouters();
      Given.siteUp(x, 0, 1, 1);
      Given.siteUp(x, 255, 1, 2);
      c.due("the least", x.send(0, 0, 5), 1);
      c.due("the least but one", x.send(0, 1, 5), 32);
      c.due("the most but one", x.send(0, 254, 5), 39);
      c.due("the most", x.send(0, 255, 5), 2);
    });
    s.test("flow: 0 to 99", c -> {
      Watched x = Given.oneSite();
      x.setSlot(0, 1, 2, 0, 4);
      c.due("the least", x.send(0, 5, 0), 1);
      c.due("the least but one", x.send(0, 5, 1), 2);
      c.due("the most but four", x.send(0, 5, 95), 1);
      c.due("the most", x.send(0, 5, 99), 2);
    });
    s.test("Returns the place at which it arrives, ", c -> {
      Watched x = Given.oneSite();
      for (int place = 0; place <= 31; place++) {
        x.setSlot(0, 0, place, 0, 1);
        x.forget(0);
        c.due("by a new map", x.send(0, 5, 0), place);
        c.due("by a map", x.send(0, 5, 0), place);
      }
    });
    s.test("or that of the proxy (32 to 39);", c -> {
      Watched x = new Watched();
      x.addRouter();
      c.due("the least", x.send(0, 0, 0), 32);
      c.due("the most", x.send(0, 255, 0), 39);
      for (int proxy = 32; proxy <= 39; proxy++) {
        c.due("the first name of it", x.send(0, 32 * (proxy - 32), 0), proxy);
        c.due("the last name of it", x.send(0, 32 * (proxy - 32) + 31, 0), proxy);
      }
    });
  }

  private static void sendErrors(Sentences s) {
    s.test("BAD_INDEX if there is no such router;", c -> {
      c.due("without routers", new Watched().send(0, 0, 0), -1);
      Watched x = Given.fourRouters();
      for (int router : Given.outside(0, 3)) {
        c.due("router " + router, x.send(router, 0, 0), -1);
      }
      x.undo();
      c.due("a router that is no more", x.send(3, 0, 0), -1);
    });
    s.test("BAD_VALUE if another argument is out of range.", c -> {
      Watched x = Given.fourRouters();
      for (int name : Given.outside(0, 255)) {
        c.due("name " + name, x.send(3, name, 0), -2);
      }
      for (int flow : Given.outside(0, 99)) {
        c.due("flow " + flow, x.send(3, 0, flow), -2);
      }
      c.due("letters", x.total(7), 0);
    });
  }

  private static void pass(Sentences s) {
    s.test("int pass(int hours): Lets hours pass.", c -> {
      Watched x = Given.oneSite();
      x.send(0, 5, 0);
      x.pass(9);
      c.due("the hour", x.total(0), 9);
      c.due("a map in its last hour", x.map(0, 0, 4), 1);
      x.pass(1);
      c.due("the hour then", x.total(0), 10);
      c.due("the map at its end", x.map(0, 0, 4), 0);
      x.pass(37);
      c.due("the site in its last hour", x.site(0, 6), 1);
      x.pass(1);
      c.due("the site at its end", x.site(0, 6), 0);
    });
    s.recorded(Given::world, x -> x.pass(50));
    s.test("hours: 1 to 99", c -> {
      for (int hours = 1; hours <= 99; hours++) {
        c.due("pass(" + hours + ")", new Watched().pass(hours), hours);
      }
    });
    s.test("Returns the hour that is now;", c -> {
      Watched x = new Watched();
      c.due("the least", x.pass(1), 1);
      c.due("the most at once", x.pass(99), 100);
      Given.untilHour(x, 9900);
      c.due("the last hour", x.pass(99), 9999);
      c.due("it is now", x.total(0), 9999);
    });
    s.test("BAD_VALUE if hours is out of range;", c -> {
      Watched x = new Watched();
      for (int hours : Given.outside(1, 99)) {
        c.due("pass(" + hours + ")", x.pass(hours), -2);
      }
      c.due("the hour", x.total(0), 0);
    });
    s.test("NOT_POSSIBLE if it would be later than 9999.", c -> {
      Watched x = new Watched();
      Given.untilHour(x, 9901);
      c.due("one too many of 99", x.pass(99), -3);
      c.due("98 are left", x.pass(98), 9999);
      c.due("none is left", x.pass(1), -3);
      c.due("none is left of 99", x.pass(99), -3);
      c.due("the hour", x.total(0), 9999);
      x.undo();
      c.due("the hour before", x.pass(97), 9998);
      c.due("two", x.pass(2), -3);
      c.due("one", x.pass(1), 9999);
    });
  }

  private static void wouldReach(Sentences s) {
    s.test("int wouldReach(int router, int name, int flow, int hours): Tells the place at which a letter "
        + "would arrive, ", c -> {
          Watched x = Given.twoSites();
          x.addRouter();
          x.setSlot(0, 1, 3, 0, 2);
          c.due("by an answer", x.wouldReach(0, 63, 0, 0), 2);
          c.due("by another answer, flow 1", x.wouldReach(0, 64, 1, 0), 3);
          x.send(0, 64, 0);
          c.due("by a map", x.wouldReach(0, 63, 0, 0), 1);
          c.due("of another router", x.wouldReach(1, 63, 0, 0), 2);
          x.setSlot(0, 0, 4, 0, 1);
          c.due("by an old map, flow 0", x.wouldReach(0, 63, 0, 0), 2);
          c.due("by the same map, flow 1", x.wouldReach(0, 63, 1, 0), 3);
          x.send(0, 63, 1);
          c.due("by a marked map", x.wouldReach(0, 63, 1, 0), 2);
        });
    s.test("or that of the proxy, ", c -> {
      Watched x = Given.twoSites();
      x.send(0, 5, 0);
      x.unregister(0);
      c.due("a name without a site that is up", x.wouldReach(0, 64, 0, 0), 34);
      c.due("the last one of the names", x.wouldReach(0, 255, 99, 0), 39);
      x.unregister(1);
      c.due("an old map", x.wouldReach(0, 31, 0, 0), 32);
      c.due("nothing is changed", x.router(0, 0), 1);
    });
    s.test("if it was sent after some hours, ", c -> {
      Watched x = Given.twoSites();
      x.pass(4);
      x.register(0);
      x.send(0, 64, 0);
      c.due("a map in its last hour", x.wouldReach(0, 5, 0, 9), 1);
      c.due("a map at its end", x.wouldReach(0, 5, 0, 10), 2);
      c.due("a site in its last hour", x.wouldReach(0, 5, 0, 43), 2);
      c.due("a site at its end", x.wouldReach(0, 5, 0, 44), 1);
      c.due("the other one in its last hour", x.wouldReach(0, 5, 0, 47), 1);
      c.due("the other one at its end", x.wouldReach(0, 5, 0, 48), 32);
      x.setMapLife(100);
      x.forget(0);
      x.send(0, 5, 0);
      c.due("a map that holds, of a site in its last hour", x.wouldReach(0, 5, 0, 43), 2);
      c.due("a map that holds, of a site at its end", x.wouldReach(0, 5, 0, 44), 1);
    });
    s.test("if only hours pass until then.", c -> {
      for (int hours = 0; hours <= 99; hours++) {
        Watched x = Given.world();
        int would = x.wouldReach(0, 70, 3, hours);
        if (hours > 0) {
          x.pass(hours);
        }
        c.due("after " + hours + " hours", x.send(0, 70, 3), would);
      }
    });
  }

  private static void wouldReachArguments(Sentences s) {
    s.test("router: a router ", c -> {
      Watched x = Given.oneSite();
      for (int router = 1; router <= 3; router++) {
        x.addRouter();
      }
      x.send(3, 5, 0);
      Given.siteUp(x, 0, 128, 2);
      for (int router = 0; router <= 3; router++) {
        c.due("router " + router, x.wouldReach(router, 5, 5, 5), router == 3 ? 1 : 2);
      }
    });
    s.test("name: 0 to 255 ", c -> {
      Watched x = Given.fourRouters();
      Given.siteUp(x, 0, 1, 1);
      Given.siteUp(x, 255, 1, 2);
      c.due("the least", x.wouldReach(0, 0, 5, 5), 1);
      c.due("the least but one", x.wouldReach(0, 1, 5, 5), 32);
      c.due("the most but one", x.wouldReach(0, 254, 5, 5), 39);
      c.due("the most", x.wouldReach(0, 255, 5, 5), 2);
    });
    s.test("flow: 0 to 99", c -> {
      Watched x = Given.oneSite();
      x.setSlot(0, 1, 2, 0, 4);
      c.due("the least", x.wouldReach(0, 5, 0, 5), 1);
      c.due("the least but one", x.wouldReach(0, 5, 1, 5), 2);
      c.due("the most but four", x.wouldReach(0, 5, 95, 5), 1);
      c.due("the most", x.wouldReach(0, 5, 99, 5), 2);
    });
    s.test("hours: 0 to 99 ", c -> {
      Watched x = Given.oneSite();
      x.addSite(255, 1, 1);
      c.due("0 hours", x.wouldReach(0, 255, 0, 0), 1);
      for (int hours = 1; hours <= 99; hours++) {
        c.due(hours + " hours", x.wouldReach(0, 255, 0, hours), hours < 48 ? 1 : 39);
      }
    });
    s.test("(also beyond hour 9999) ", c -> {
      Watched x = Given.oneSite();
      Given.untilHour(x, 9999);
      x.register(0);
      x.setMapLife(100);
      x.send(0, 5, 0);
      c.due("hour 9999", x.wouldReach(0, 5, 0, 0), 1);
      c.due("hour 10000", x.wouldReach(0, 5, 0, 1), 1);
      c.due("hour 10046", x.wouldReach(0, 5, 0, 47), 1);
      c.due("hour 10047", x.wouldReach(0, 5, 0, 48), 32);
      c.due("hour 10098", x.wouldReach(0, 5, 0, 99), 32);
      c.due("the hour is as before", x.total(0), 9999);
    });
    s.plain("Returns the place;");
    s.test("BAD_INDEX if there is no such router;", c -> {
      c.due("without routers", new Watched().wouldReach(0, 0, 0, 0), -1);
      Watched x = Given.fourRouters();
      for (int router : Given.outside(0, 3)) {
        c.due("router " + router, x.wouldReach(router, 0, 0, 0), -1);
      }
    });
    s.test("BAD_VALUE if another argument is out of range.", c -> {
      Watched x = Given.fourRouters();
      for (int name : Given.outside(0, 255)) {
        c.due("name " + name, x.wouldReach(3, name, 0, 0), -2);
      }
      for (int number : Given.outside(0, 99)) {
        c.due("flow " + number, x.wouldReach(3, 0, number, 0), -2);
        c.due("hours " + number, x.wouldReach(3, 0, 0, number), -2);
      }
    });
  }

  private static void wouldAsk(Sentences s) {
    s.test("int wouldAsk(int router, int name, int flow): Tells how often a router would ask, ", c -> {
      Watched x = Given.twoSites();
      x.addRouter();
      c.due("without a map", x.wouldAsk(0, 5, 0), 1);
      x.send(0, 5, 0);
      c.due("with a map", x.wouldAsk(0, 5, 0), 0);
      c.due("of another router", x.wouldAsk(1, 5, 0), 1);
      c.due("for a name beside it", x.wouldAsk(0, 64, 0), 1);
      x.setSlot(1, 1, 9, 0, 1);
      c.due("with a map that would become marked", x.wouldAsk(0, 5, 0), 0);
      x.send(0, 5, 0);
      c.due("with a marked map", x.wouldAsk(0, 5, 0), 1);
      x.send(0, 5, 0);
      x.setSlot(1, 1, 8, 0, 1);
      c.due("with a map, at a place that is there", x.wouldAsk(0, 5, 0), 0);
      c.due("with the same map, at a place that is no more", x.wouldAsk(0, 5, 1), 1);
      x.unregister(1);
      c.due("with an old map", x.wouldAsk(0, 5, 0), 1);
    });
    s.test("if it sent a letter now.", c -> {
      Watched x = Given.oneSite();
      x.setMapLife(100);
      x.send(0, 5, 0);
      x.pass(47);
      c.due("its site in its last hour", x.wouldAsk(0, 5, 0), 0);
      x.pass(1);
      c.due("its site at its end", x.wouldAsk(0, 5, 0), 1);
      x.register(0);
      x.pass(47);
      x.register(0);
      x.pass(4);
      c.due("the map in its last hour", x.wouldAsk(0, 5, 0), 0);
      x.pass(1);
      c.due("the map at its end", x.wouldAsk(0, 5, 0), 1);
      c.due("it is there yet", x.router(0, 0), 1);
    });
  }

  private static void wouldAskArguments(Sentences s) {
    s.test("router: a router ", c -> {
      Watched x = Given.fourRouters();
      Given.siteUp(x, 0, 256, 1);
      for (int router = 0; router <= 3; router++) {
        c.due("router " + router, x.wouldAsk(router, 5, 5), 1);
        x.send(router, 5, 5);
        c.due("router " + router + ", with a map", x.wouldAsk(router, 5, 5), 0);
      }
    });
    s.test("name: 0 to 255 ", c -> {
      Watched x = Given.fourRouters();
      Given.siteUp(x, 0, 1, 1);
      Given.siteUp(x, 255, 1, 2);
      for (int name : new int[] {0, 255}) {
        c.due("name " + name, x.wouldAsk(0, name, 5), 1);
        x.send(0, name, 5);
        c.due("name " + name + ", with a map", x.wouldAsk(0, name, 5), 0);
      }
      c.due("the least but one", x.wouldAsk(0, 1, 5), 1);
      c.due("the most but one", x.wouldAsk(0, 254, 5), 1);
    });
    s.test("flow: 0 to 99", c -> {
      Watched x = Given.oneSite();
      x.setSlot(0, 1, 2, 0, 4);
      x.send(0, 5, 0);
      x.emptySlot(0, 1);
      c.due("the least", x.wouldAsk(0, 5, 0), 0);
      c.due("the least but one", x.wouldAsk(0, 5, 1), 1);
      c.due("the most but four", x.wouldAsk(0, 5, 95), 0);
      c.due("the most", x.wouldAsk(0, 5, 99), 1);
    });
    s.test("Returns the number, 0 or 1;", c -> {
      Watched x = Given.oneSite();
      for (int n = 0; n < 5; n++) {
        c.due("no map, however many asks there were", x.wouldAsk(0, 5, 0), 1);
        x.send(0, 5, 0);
        c.due("a map", x.wouldAsk(0, 5, 0), 0);
        x.unregister(0);
        c.due("an old map and no answer", x.wouldAsk(0, 5, 0), 1);
        x.register(0);
        x.forget(0);
      }
      x.setSlot(0, 0, 0, 0, 1);
      c.due("no map, and it would arrive at place 0", x.wouldAsk(0, 5, 0), 1);
      x.send(0, 5, 0);
      c.due("a map, and it would arrive at place 0", x.wouldAsk(0, 5, 0), 0);
    });
    s.test("BAD_INDEX if there is no such router;", c -> {
      c.due("without routers", new Watched().wouldAsk(0, 0, 0), -1);
      Watched x = Given.fourRouters();
      for (int router : Given.outside(0, 3)) {
        c.due("router " + router, x.wouldAsk(router, 0, 0), -1);
      }
    });
    s.test("BAD_VALUE if another argument is out of range.", c -> {
      Watched x = Given.fourRouters();
      for (int name : Given.outside(0, 255)) {
        c.due("name " + name, x.wouldAsk(3, name, 0), -2);
      }
      for (int flow : Given.outside(0, 99)) {
        c.due("flow " + flow, x.wouldAsk(3, 0, flow), -2);
      }
    });
  }
}
