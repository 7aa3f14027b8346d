/** What can be asked of sites: promises 21, 22, 25, 27 and 31. */
final class SiteLooksSentences {
  private SiteLooksSentences() {
  }

  static void tests(Sentences s) {
    s.section("Promise 21");
    site(s);
    siteErrors(s);
    s.section("Promise 22");
    slot(s);
    s.section("Promise 25");
    answer(s);
    s.section("Promise 27");
    endingNext(s);
    s.section("Promise 31");
    share(s);
    shareErrors(s);
  }

  private static void site(Sentences s) {
    s.test("int site(int site, int property): Returns a property of a site. site: a site", c -> {
      Watched x = Given.eightSites();
      for (int site = 0; site <= 7; site++) {
        c.due("site " + site, x.site(site, 0), 8 * site);
      }
    });
    s.test("property: 0 the first name of its block, 1 the size, 2 its life, ", c -> {
      Watched x = new Watched();
      int[][] sites = {{0, 256, 1}, {255, 1, 48}, {0, 1, 2}, {128, 128, 47}};
      for (int site = 0; site < sites.length; site++) {
        x.addSite(sites[site][0], sites[site][1], sites[site][2]);
        for (int property = 0; property <= 2; property++) {
          c.due("site(" + site + ", " + property + ")", x.site(site, property), sites[site][property]);
        }
      }
    });
    s.test("3 its version, ", c -> {
      Watched x = Given.eightSites();
      x.setSlot(7, 0, 1, 1, 1);
      c.due("the least", x.site(6, 3), 1);
      c.due("one more", x.site(7, 3), 2);
    });
    s.test("4 the hour at which its registration ends (0 if it was never registered; ", c -> {
      Watched x = new Watched();
      x.addSite(0, 1, 5);
      x.pass(9);
      c.due("it was never registered", x.site(0, 4), 0);
      x.register(0);
      c.due("it is registered", x.site(0, 4), 14);
      x.pass(10);
      c.due("it has ended", x.site(0, 4), 14);
      Given.untilHour(x, 9999);
      x.register(0);
      c.due("beyond the last hour", x.site(0, 4), 10004);
    });
    s.test("when it was ended, the hour of that), ", c -> {
      Watched x = new Watched();
      x.addSite(0, 1, 5);
      x.register(0);
      x.unregister(0);
      c.due("in hour 0", x.site(0, 4), 0);
      x.register(0);
      x.pass(4);
      x.unregister(0);
      c.due("in hour 4", x.site(0, 4), 4);
      x.pass(9);
      c.due("later", x.site(0, 4), 4);
    });
    s.test("5 its home, ", c -> {
      Watched x = Given.chainOfServers();
      x.addSite(0, 1, 1);
      x.addSite(0, 2, 1);
      x.addSite(0, 4, 1);
      x.addSite(128, 128, 1);
      x.addSite(0, 128, 1);
      int[] homes = {7, 7, 6, 0, 1};
      for (int site = 0; site < homes.length; site++) {
        c.due("home of " + site, x.site(site, 5), homes[site]);
      }
    });
    s.test("6 1 if it is up and 0 if not, ", c -> {
      Watched x = new Watched();
      x.addSite(0, 1, 2);
      x.register(0);
      c.due("without a slot", x.site(0, 6), 0);
      x.setSlot(0, 0, 0, 0, 1);
      x.pass(1);
      c.due("in its last hour", x.site(0, 6), 1);
      x.pass(1);
      c.due("at its end", x.site(0, 6), 0);
    });
    s.test("7 the number of maps of it in all caches (also of those that do not hold)", c -> {
      Watched x = Given.twoSites();
      for (int router = 1; router <= 3; router++) {
        x.addRouter();
      }
      c.due("none", x.site(0, 7), 0);
      for (int router = 0; router <= 3; router++) {
        x.send(router, 200, 0);
        x.send(router, 201, 0);
        c.due("one a router", x.site(0, 7), router + 1);
      }
      x.pass(9);
      c.due("they hold", x.site(0, 7), 4);
      x.pass(1);
      c.due("they do not hold", x.site(0, 7), 4);
      x.send(3, 5, 0);
      c.due("one was dropped", x.site(0, 7), 3);
      c.due("of the other site", x.site(1, 7), 1);
      x.forget(0);
      c.due("one was forgotten", x.site(0, 7), 2);
    });
  }

  private static void siteErrors(Sentences s) {
    s.plain("Returns the property;");
    s.test("BAD_INDEX if there is no such site;", c -> {
      c.due("without sites", new Watched().site(0, 0), -1);
      Watched x = Given.eightSites();
      for (int site : Given.outside(0, 7)) {
        c.due("site " + site, x.site(site, 0), -1);
      }
      x.undo();
      c.due("a site that is no more", x.site(7, 0), -1);
    });
    s.test("BAD_VALUE if property is out of range.", c -> {
      Watched x = Given.eightSites();
      for (int property : Given.outside(0, 7)) {
        c.due("property " + property, x.site(7, property), -2);
      }
    });
  }

  private static void slot(Sentences s) {
    s.test("int slot(int site, int slot, int property): Returns a property of a slot of a site.", c -> {
      Watched x = Given.eightSites();
      for (int n = 0; n < 24; n++) {
        x.setSlot(n / 3, n % 3, n, 1, 1);
      }
      for (int n = 0; n < 24; n++) {
        c.due("slot " + n % 3 + " of " + n / 3, x.slot(n / 3, n % 3, 0), n);
      }
    });
    s.test("site: a site ", c -> {
      Watched x = Given.eightSites();
      for (int site = 0; site <= 7; site++) {
        c.due("an empty slot of site " + site, x.slot(site, 1, 0), -5);
        x.setSlot(site, 1, 20 + site, 1, 1);
        c.due("a slot of site " + site, x.slot(site, 1, 0), 20 + site);
      }
    });
    s.test("slot: 0 to 2", c -> {
      Watched x = Given.eightSites();
      for (int slot = 0; slot <= 2; slot++) {
        c.due("slot " + slot + ", empty", x.slot(7, slot, 0), -5);
        x.setSlot(7, slot, 20 + slot, 1, 1);
        c.due("slot " + slot, x.slot(7, slot, 0), 20 + slot);
      }
    });
    s.test("property: 0 its place, 1 its priority, 2 its weight Returns the property;", c -> {
      Watched x = Given.eightSites();
      int[][] slots = {{0, 0, 1}, {31, 9, 9}, {7, 8, 6}};
      for (int slot = 0; slot <= 2; slot++) {
        x.setSlot(0, slot, slots[slot][0], slots[slot][1], slots[slot][2]);
        for (int property = 0; property <= 2; property++) {
          c.due("slot(0, " + slot + ", " + property + ")", x.slot(0, slot, property),
              slots[slot][property]);
        }
      }
    });
    s.test("BAD_INDEX if there is no such site or slot;", c -> {
      c.due("without sites", new Watched().slot(0, 0, 0), -1);
      Watched x = Given.eightSites();
      for (int site : Given.outside(0, 7)) {
        c.due("site " + site, x.slot(site, 0, 0), -1);
      }
      for (int slot : Given.outside(0, 2)) {
        c.due("slot " + slot, x.slot(7, slot, 0), -1);
      }
    });
    s.test("BAD_VALUE if property is out of range;", c -> {
      Watched x = Given.eightSites();
      x.setSlot(0, 0, 1, 1, 1);
      x.setSlot(0, 1, 1, 1, 1);
      for (int property : Given.outside(0, 2)) {
        c.due("property " + property, x.slot(0, 0, property), -2);
        c.due("property " + property + " of an empty one", x.slot(0, 2, property), -2);
      }
    });
    s.test("NONE if it is empty.", c -> {
      Watched x = Given.eightSites();
      x.setSlot(0, 0, 1, 1, 1);
      for (int property = 0; property <= 2; property++) {
        c.due("property " + property + " of one beside it", x.slot(0, 1, property), -5);
        c.dueTrue("property " + property + " of one that is not empty", x.slot(0, 0, property) == 1);
      }
      x.emptySlot(0, 0);
      for (int property = 0; property <= 2; property++) {
        c.due("property " + property + " of an emptied one", x.slot(0, 0, property), -5);
      }
    });
  }

  private static void answer(Sentences s) {
    s.test("int answer(int name): Returns the site that is the answer for a name. name: 0 to 255 "
        + "Returns the site;", c -> {
          Watched x = new Watched();
          for (int site = 0; site <= 6; site++) {
            x.addSite(site + 1, 1, 1);
          }
          Given.siteUp(x, 0, 256, 1);
          c.due("name 0", x.answer(0), 7);
          c.due("name 255", x.answer(255), 7);
          Given.untilHour(x, 48);
          x.setSlot(0, 0, 1, 1, 1);
          x.register(0);
          c.due("name 1", x.answer(1), 0);
        });
    s.test("BAD_VALUE if name is out of range;", c -> {
      Watched x = Given.oneSite();
      for (int name : Given.outside(0, 255)) {
        c.due("name " + name, x.answer(name), -2);
      }
    });
    s.test("NONE if there is none.", c -> {
      Watched x = new Watched();
      c.due("name 0", x.answer(0), -5);
      c.due("name 255", x.answer(255), -5);
      Given.siteUp(x, 1, 1, 1);
      c.due("name 0 beside a site", x.answer(0), -5);
      c.due("name 2 beside a site", x.answer(2), -5);
      x.unregister(0);
      c.due("the name of a site that is not up", x.answer(1), -5);
    });
  }

  private static void endingNext(Sentences s) {
    s.test("int endingNext(int place): Returns a site in the order in which registrations end: of the "
        + "sites whose registration holds now, ", c -> {
          Watched x = Given.eightSites();
          x.register(0);
          x.register(2);
          x.register(3);
          c.due("three: the first", x.endingNext(0), 0);
          c.due("three: the last", x.endingNext(2), 3);
          c.due("no fourth", x.endingNext(3), -5);
          x.pass(1);
          c.due("one has ended: the first", x.endingNext(0), 2);
          c.due("one has ended: no third", x.endingNext(2), -5);
          x.unregister(2);
          c.due("one was ended: the first", x.endingNext(0), 3);
          c.due("one was ended: no second", x.endingNext(1), -5);
        });
    s.test("the one whose registration ends earlier comes first, ", c -> {
      Watched x = new Watched();
      int[] lives = {9, 48, 3, 10, 1, 8, 2, 47};
      for (int site = 0; site <= 7; site++) {
        x.addSite(site, 1, lives[site]);
        x.register(site);
      }
      int[] due = {4, 6, 2, 5, 0, 3, 7, 1};
      for (int place = 0; place <= 7; place++) {
        c.due("endingNext(" + place + ")", x.endingNext(place), due[place]);
      }
      x.pass(1);
      x.register(4);
      c.due("it ends when site 6 does", x.endingNext(0), 4);
    });
    s.test("of several the one with the smaller number.", c -> {
      Watched x = new Watched();
      for (int site = 0; site <= 7; site++) {
        x.addSite(site, 1, site == 3 ? 4 : 5);
      }
      for (int site = 7; site >= 0; site--) {
        x.register(site);
      }
      int[] due = {3, 0, 1, 2, 4, 5, 6, 7};
      for (int place = 0; place <= 7; place++) {
        c.due("endingNext(" + place + ")", x.endingNext(place), due[place]);
      }
    });
    s.test("place: 0 for the first one Returns the site;", c -> {
      Watched x = Given.eightSites();
      for (int site = 7; site >= 0; site--) {
        x.register(site);
      }
      c.due("place 0", x.endingNext(0), 0);
      c.due("place 7", x.endingNext(7), 7);
    });
    s.test("BAD_VALUE if place is below 0;", c -> {
      Watched x = Given.oneSite();
      for (int place : new int[] {-1, -2, -5, -256, Integer.MIN_VALUE}) {
        c.due("place " + place, x.endingNext(place), -2);
      }
    });
    s.test("NONE if there are fewer.", c -> {
      c.due("without sites", new Watched().endingNext(0), -5);
      Watched x = Given.eightSites();
      c.due("without registrations", x.endingNext(0), -5);
      for (int site = 0; site <= 7; site++) {
        c.due("place ahead of its registration", x.endingNext(site), -5);
        x.register(site);
        c.due("place after its registration", x.endingNext(site), site);
      }
      for (int place : new int[] {8, 9, 256, Integer.MAX_VALUE}) {
        c.due("place " + place, x.endingNext(place), -5);
      }
    });
  }

  private static void share(Sentences s) {
    s.test("int share(int site, int place): Tells how many of the flows 0 to 99 would be given a place "
        + "by a site, ", c -> {
          for (int weight = 1; weight <= 9; weight++) {
            for (int other = 1; other <= 9; other++) {
              Watched x = new Watched();
              x.addSite(0, 1, 1);
              x.setSlot(0, 0, 0, 4, weight);
              x.setSlot(0, 2, 31, 4, other);
              int first = 100 / (weight + other) * weight + Math.min(weight, 100 % (weight + other));
              c.due("weights " + weight + " and " + other, x.share(0, 0), first);
              c.due("the other place", x.share(0, 31), 100 - first);
            }
          }
        });
    s.test("as its slots are now ", c -> {
      Watched x = Given.eightSites();
      x.setSlot(7, 0, 5, 1, 1);
      c.due("one slot", x.share(7, 5), 100);
      x.setSlot(7, 1, 6, 1, 1);
      c.due("two slots", x.share(7, 5), 50);
      x.setSlot(7, 2, 5, 1, 2);
      c.due("a place in two slots", x.share(7, 5), 75);
      x.setSlot(7, 1, 6, 0, 1);
      c.due("a place of higher priority", x.share(7, 5), 0);
      c.due("the place of the lowest one", x.share(7, 6), 100);
      x.emptySlot(7, 1);
      c.due("that one emptied", x.share(7, 5), 100);
      x.emptySlot(7, 0);
      x.emptySlot(7, 2);
      c.due("all emptied", x.share(7, 5), 0);
    });
    s.test("(whether it is up or not).", c -> {
      Watched x = Given.eightSites();
      x.setSlot(0, 0, 5, 1, 1);
      c.due("not registered", x.share(0, 5), 100);
      x.register(0);
      c.due("up", x.share(0, 5), 100);
      x.pass(1);
      c.due("ended", x.share(0, 5), 100);
    });
  }

  private static void shareErrors(Sentences s) {
    s.test("site: a site", c -> {
      Watched x = Given.eightSites();
      for (int site = 0; site <= 7; site++) {
        x.setSlot(site, 0, site, 0, 1);
        c.due("site " + site, x.share(site, site), 100);
      }
    });
    s.test("place: 0 to 31", c -> {
      Watched x = Given.eightSites();
      for (int place = 0; place <= 31; place++) {
        x.setSlot(0, 0, place, 9, 9);
        c.due("place " + place, x.share(0, place), 100);
        c.due("the place beside it", x.share(0, place ^ 1), 0);
      }
    });
    s.test("Returns the number;", c -> {
      Watched x = Given.eightSites();
      c.due("the least", x.share(0, 0), 0);
      x.setSlot(0, 0, 0, 0, 9);
      c.due("the most", x.share(0, 0), 100);
      x.setSlot(0, 1, 1, 0, 9);
      x.setSlot(0, 2, 2, 0, 9);
      int[] due = {36, 36, 28};
      for (int place = 0; place <= 2; place++) {
        c.due("of three, place " + place, x.share(0, place), due[place]);
      }
    });
    s.test("BAD_INDEX if there is no such site;", c -> {
      c.due("without sites", new Watched().share(0, 0), -1);
      Watched x = Given.eightSites();
      for (int site : Given.outside(0, 7)) {
        c.due("site " + site, x.share(site, 0), -1);
      }
    });
    s.test("BAD_VALUE if place is out of range.", c -> {
      Watched x = Given.eightSites();
      for (int place : Given.outside(0, 31)) {
        c.due("place " + place, x.share(7, place), -2);
      }
    });
  }
}
