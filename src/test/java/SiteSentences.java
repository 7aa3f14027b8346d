/** Sites: their words in the terms, and promises 3, 5, 6, 7 and 8. */
final class SiteSentences {
  private SiteSentences() {
  }

  static void tests(Sentences s) {
    s.section("Terms");
    sites(s);
    slots(s);
    homesAndVersions(s);
    registrations(s);
    answers(s);
    s.section("Promise 3");
    addSite(s);
    addSiteErrors(s);
    s.section("Promise 5");
    setSlot(s);
    setSlotErrors(s);
    s.section("Promise 6");
    emptySlot(s);
    s.section("Promise 7");
    register(s);
    s.section("Promise 8");
    unregister(s);
  }

  private static void sites(Sentences s) {
    s.test("Sites. There are at most 8, numbered from 0.", c -> {
      Watched x = new Watched();
      c.due("none at first", x.site(0, 0), -1);
      for (int site = 0; site <= 7; site++) {
        c.due("one more", x.addSite(site, 1, 1), site);
      }
      c.due("a ninth", x.addSite(8, 1, 1), -4);
      c.due("sites", x.total(2), 8);
      c.due("site 7", x.site(7, 0), 7);
      c.due("site 8", x.site(8, 0), -1);
    });
    s.test("A site has a block (no two sites have the same one) ", c -> {
      Watched x = new Watched();
      x.addSite(64, 64, 1);
      x.addSite(0, 256, 1);
      c.due("the same block", x.addSite(64, 64, 2), -3);
      c.due("that of all names", x.addSite(0, 256, 2), -3);
      c.due("the same first name, half the size", x.addSite(64, 32, 1), 2);
      c.due("the same last name, half the size", x.addSite(96, 32, 1), 3);
      c.due("twice the size", x.addSite(0, 128, 1), 4);
      c.due("the same size behind it", x.addSite(128, 64, 1), 5);
      c.due("the same size ahead of it", x.addSite(0, 64, 1), 6);
    });
    s.test("and a life (1 to 48 hours), ", c -> {
      Watched x = new Watched();
      c.due("life 1", x.addSite(0, 1, 1), 0);
      c.due("life 48", x.addSite(1, 1, 48), 1);
      c.due("end of the shortest", x.register(0), 1);
      c.due("end of the longest", x.register(1), 48);
      for (int life : Given.outside(1, 48)) {
        c.due("life " + life, x.addSite(2, 1, life), -2);
      }
    });
    s.test("and three slots, numbered from 0.", c -> {
      Watched x = new Watched();
      x.addSite(0, 1, 1);
      for (int slot = 0; slot <= 2; slot++) {
        c.due("slot " + slot, x.setSlot(0, slot, 20 + slot, 5, 1), 2 + slot);
      }
      for (int slot = 0; slot <= 2; slot++) {
        c.due("place of slot " + slot, x.slot(0, slot, 0), 20 + slot);
      }
      c.due("slot -1", x.slot(0, -1, 0), -1);
      c.due("slot 3", x.slot(0, 3, 0), -1);
    });
  }

  private static void slots(Sentences s) {
    s.test("A slot is empty (at first) ", c -> {
      Watched x = Given.eightSites();
      for (int site = 0; site <= 7; site++) {
        for (int slot = 0; slot <= 2; slot++) {
          c.due("place of slot " + slot + " of " + site, x.slot(site, slot, 0), -5);
          c.due("emptySlot", x.emptySlot(site, slot), -3);
        }
      }
    });
    s.test("or has a place (0 to 31), ", c -> endsOfSlot(c, 0, 0, 31));
    s.test("a priority (0 to 9) ", c -> endsOfSlot(c, 1, 0, 9));
    s.test("and a weight (1 to 9).", c -> endsOfSlot(c, 2, 1, 9));
  }

  /** The values of a property of a slot, at the ends of its range and beside them. */
  private static void endsOfSlot(Check c, int property, int lowest, int highest) {
    Watched x = new Watched();
    x.addSite(0, 1, 1);
    int[] values = {3, 3, 3};
    for (int value = lowest; value <= highest; value++) {
      values[property] = value;
      c.due("set " + value, x.setSlot(0, 1, values[0], values[1], values[2]), 2 + value - lowest);
      c.due("it is " + value, x.slot(0, 1, property), value);
    }
    for (int value : Given.outside(lowest, highest)) {
      values[property] = value;
      c.due("set " + value, x.setSlot(0, 1, values[0], values[1], values[2]), -2);
    }
    c.due("the last one stays", x.slot(0, 1, property), highest);
  }

  private static void homesAndVersions(Sentences s) {
    s.test("The home of a site is the server with the smallest block that has all names of its block.",
        c -> {
          Watched x = new Watched();
          int[][] blocks = {{0, 256}, {64, 64}, {64, 32}, {96, 32}, {64, 1}, {127, 1}, {128, 64}, {0, 128}};
          for (int[] block : blocks) {
            c.due("server 0 alone", x.site(x.addSite(block[0], block[1], 1), 5), 0);
          }
          homesAre(c, x, 0, 0, 0, 0, 0, 0, 0, 0);
          x.addServer(0, 64, 64);
          homesAre(c, x, 0, 1, 1, 1, 1, 1, 0, 0);
          x.addServer(1, 64, 32);
          homesAre(c, x, 0, 1, 2, 1, 2, 1, 0, 0);
          x.addServer(2, 64, 1);
          homesAre(c, x, 0, 1, 2, 1, 3, 1, 0, 0);
          x.addServer(0, 128, 128);
          homesAre(c, x, 0, 1, 2, 1, 3, 1, 4, 0);
        });
    s.test("A site has a version: it is 1 at first, ", c -> {
      Watched x = Given.eightSites();
      for (int site = 0; site <= 7; site++) {
        c.due("version of " + site, x.site(site, 3), 1);
      }
    });
    s.test("and becomes 1 more when a slot of it is set or emptied.", c -> {
      Watched x = new Watched();
      x.addSite(0, 1, 1);
      x.addSite(1, 1, 1);
      c.due("a slot is set", x.setSlot(0, 0, 1, 1, 1), 2);
      c.due("the same again", x.setSlot(0, 0, 1, 1, 1), 3);
      c.due("it is emptied", x.emptySlot(0, 0), 4);
      c.due("an empty one is not emptied", x.emptySlot(0, 0), -3);
      c.due("a wrong weight", x.setSlot(0, 0, 1, 1, 10), -2);
      x.register(0);
      x.unregister(0);
      x.pass(1);
      c.due("nothing else does it", x.site(0, 3), 4);
      c.due("nor for another site", x.site(1, 3), 1);
      for (int version = 5; version <= 400; version++) {
        c.due("one more", x.setSlot(0, 0, 1, 1, 1), version);
      }
      c.due("the last one", x.site(0, 3), 400);
    });
  }

  private static void homesAre(Check c, Watched x, int... homes) {
    for (int site = 0; site < homes.length; site++) {
      c.due("home of site " + site, x.site(site, 5), homes[site]);
    }
  }

  private static void registrations(Sentences s) {
    s.test("A site can be registered; its registration ends at an hour (it holds in the hours before).",
        c -> {
          Watched x = new Watched();
          x.addSite(0, 1, 5);
          c.due("not registered", x.endingNext(0), -5);
          c.due("register", x.register(0), 5);
          for (int hour = 0; hour <= 4; hour++) {
            c.due("it holds in hour " + hour, x.endingNext(0), 0);
            x.pass(1);
          }
          c.due("it does not hold in hour 5", x.endingNext(0), -5);
          c.due("it cannot be ended", x.unregister(0), -3);
        });
    s.test("A site is up if its registration holds now and a slot of it is not empty.", c -> {
      for (int slot = 0; slot <= 2; slot++) {
        Watched x = new Watched();
        x.addSite(0, 1, 5);
        c.due("neither", x.site(0, 6), 0);
        x.setSlot(0, slot, 0, 0, 1);
        c.due("slot " + slot + " alone", x.site(0, 6), 0);
        x.register(0);
        c.due("both", x.site(0, 6), 1);
        x.emptySlot(0, slot);
        c.due("the registration alone", x.site(0, 6), 0);
        x.setSlot(0, slot, 0, 0, 1);
        x.pass(4);
        c.due("in the last hour", x.site(0, 6), 1);
        x.pass(1);
        c.due("at its end", x.site(0, 6), 0);
      }
    });
  }

  private static void answers(Sentences s) {
    s.test("The answer for a name is, of the sites that are up, ", c -> {
      Watched x = Given.twoSites();
      c.due("both are up", x.answer(5), 1);
      x.unregister(1);
      c.due("site 1 is not registered", x.answer(5), 0);
      x.register(1);
      x.emptySlot(1, 0);
      c.due("site 1 has no slot", x.answer(5), 0);
      x.setSlot(1, 2, 0, 9, 1);
      c.due("site 1 has a slot", x.answer(5), 1);
      x.pass(47);
      c.due("in their last hour", x.answer(5), 1);
      x.register(0);
      x.pass(1);
      c.due("site 1 has ended", x.answer(5), 0);
    });
    s.test("whose home is the home of the name, ", c -> {
      Watched x = Given.twoSites();
      x.addServer(0, 0, 64);
      x.addServer(1, 0, 16);
      c.due("home of the name is server 2, which has no site", x.answer(15), -5);
      c.due("home of the name is server 1", x.answer(16), 1);
      c.due("the last one of it", x.answer(63), 1);
      c.due("home of the name is server 0", x.answer(64), 0);
      Given.siteUp(x, 0, 16, 3);
      Given.siteUp(x, 0, 32, 4);
      c.due("a site with the block of server 2", x.answer(15), 2);
      c.due("a site around server 2", x.answer(16), 3);
      c.due("beside that site", x.answer(32), 1);
    });
    s.test("and whose block has the name, ", c -> {
      Watched x = new Watched();
      Given.siteUp(x, 32, 32, 1);
      Given.siteUp(x, 128, 1, 1);
      int[][] due = {{31, -5}, {32, 0}, {63, 0}, {64, -5}, {127, -5}, {128, 1}, {129, -5}};
      for (int[] row : due) {
        c.due("answer(" + row[0] + ")", x.answer(row[0]), row[1]);
      }
    });
    s.test("the one with the smallest block. ", c -> {
      int[][] blocks = {{0, 256}, {0, 1}, {0, 128}, {0, 2}, {0, 64}, {0, 4}, {0, 32}, {0, 8}};
      Watched x = new Watched();
      for (int[] block : blocks) {
        Given.siteUp(x, block[0], block[1], 1);
      }
      int[][] due = {{0, 1}, {1, 3}, {2, 5}, {3, 5}, {4, 7}, {7, 7}, {8, 6}, {31, 6}, {32, 4},
          {63, 4}, {64, 2}, {127, 2}, {128, 0}, {255, 0}};
      for (int[] row : due) {
        c.due("answer(" + row[0] + ")", x.answer(row[0]), row[1]);
      }
    });
    s.test("There may be none.", c -> {
      Watched x = new Watched();
      c.due("without sites", x.answer(0), -5);
      x.addSite(0, 256, 1);
      c.due("without sites that are up", x.answer(255), -5);
    });
  }

  private static void addSite(Sentences s) {
    s.test("int addSite(int first, int size, int life): Adds a site, with empty slots, which is not "
        + "registered.", c -> {
          Watched x = new Watched();
          x.addSite(32, 32, 7);
          int[] due = {32, 32, 7, 1, 0, 0, 0, 0};
          for (int property = 0; property < due.length; property++) {
            c.due("site(0, " + property + ")", x.site(0, property), due[property]);
          }
          for (int slot = 0; slot <= 2; slot++) {
            c.due("slot " + slot, x.slot(0, slot, 0), -5);
          }
          c.due("sites", x.total(2), 1);
          c.due("unregister", x.unregister(0), -3);
          c.due("endingNext", x.endingNext(0), -5);
          x.pass(5);
          c.due("a site that is added later", x.site(x.addSite(0, 1, 1), 4), 0);
          placeOfAnUndoneSite(c);
        });
    s.recorded(Given::world, x -> x.addSite(128, 64, 5));
    s.test("first: the first name of its block", c -> {
      Watched x = new Watched();
      for (int first : new int[] {0, 1, 254, 255}) {
        c.due("its first name", x.site(x.addSite(first, 1, 1), 0), first);
      }
    });
    s.test("size: the size of its block", c -> {
      for (int size = 1; size <= 256; size *= 2) {
        Watched x = new Watched();
        c.due("its size", x.site(x.addSite(256 - size, size, 1), 1), size);
        c.due("its first name", x.site(0, 0), 256 - size);
      }
    });
    s.test("life: 1 to 48", c -> {
      for (int life = 1; life <= 48; life++) {
        Watched x = new Watched();
        c.due("its life", x.site(x.addSite(0, 1, life), 2), life);
      }
    });
    s.test("Returns its number;", c -> {
      Watched x = new Watched();
      c.due("the first", x.addSite(0, 1, 1), 0);
      c.due("an error", x.addSite(0, 1, 1), -3);
      for (int site = 1; site <= 7; site++) {
        c.due("one more", x.addSite(site, 1, 1), site);
      }
    });
  }

  /** A site gets the number of one that was undone, and nothing else of it. */
  private static void placeOfAnUndoneSite(Check c) {
    Watched x = new Watched();
    x.save(0);
    x.addSite(0, 128, 48);
    for (int slot = 0; slot <= 2; slot++) {
      x.setSlot(0, slot, 9, 8, 7);
    }
    x.register(0);
    x.restore(0);
    c.due("its number", x.addSite(0, 256, 5), 0);
    int[] due = {0, 256, 5, 1, 0, 0, 0, 0};
    for (int property = 0; property < due.length; property++) {
      c.due("site(0, " + property + ") then", x.site(0, property), due[property]);
    }
    for (int slot = 0; slot <= 2; slot++) {
      c.due("slot " + slot + " then", x.slot(0, slot, 2), -5);
    }
  }

  private static void addSiteErrors(Sentences s) {
    s.test("BAD_VALUE if first and size are not those of a block, ", c -> {
      int[][] blocks = {{0, 0}, {0, -1}, {0, 3}, {0, 255}, {0, 257}, {0, 512}, {-1, 1}, {256, 1},
          {-256, 256}, {1, 2}, {1, 256}, {128, 256}, {64, 128}, {254, 4}, {255, 2}, {-2, 2},
          {Integer.MIN_VALUE, 1}, {Integer.MAX_VALUE, 1}, {0, Integer.MIN_VALUE},
          {0, Integer.MAX_VALUE}, {Integer.MIN_VALUE, Integer.MIN_VALUE}};
      Watched x = new Watched();
      for (int[] block : blocks) {
        c.due("from " + block[0] + " of " + block[1], x.addSite(block[0], block[1], 1), -2);
      }
      c.due("sites", x.total(2), 0);
    });
    s.test("or life is out of range;", c -> {
      Watched x = new Watched();
      for (int life : Given.outside(1, 48)) {
        c.due("life " + life, x.addSite(0, 1, life), -2);
      }
      c.due("sites", x.total(2), 0);
    });
    s.test("NOT_POSSIBLE if a site has this block;", c -> {
      Watched x = Given.eightSites();
      x.undo();
      for (int site = 0; site <= 6; site++) {
        c.due("the block of site " + site, x.addSite(8 * site, 8, 48), -3);
      }
      c.due("the block of no site", x.addSite(56, 8, 48), 7);
      c.due("then it is one", x.addSite(56, 8, 48), -3);
    });
    s.test("FULL if there are 8.", c -> {
      Watched x = Given.eightSites();
      c.due("there are 8", x.addSite(128, 8, 1), -4);
      c.due("their names in a larger block", x.addSite(0, 256, 1), -4);
      x.undo();
      c.due("there are 7", x.addSite(128, 8, 1), 7);
      c.due("there are 8 again", x.addSite(0, 256, 1), -4);
    });
  }

  private static void setSlot(Sentences s) {
    s.test("int setSlot(int site, int slot, int place, int priority, int weight): Sets a slot of a site.",
        c -> {
          Watched x = Given.eightSites();
          x.setSlot(7, 2, 31, 9, 8);
          x.setSlot(7, 2, 0, 0, 1);
          x.setSlot(0, 0, 31, 9, 9);
          int[][] due = {{7, 2, 0, 0, 1}, {0, 0, 31, 9, 9}};
          for (int[] row : due) {
            c.due("place", x.slot(row[0], row[1], 0), row[2]);
            c.due("priority", x.slot(row[0], row[1], 1), row[3]);
            c.due("weight", x.slot(row[0], row[1], 2), row[4]);
          }
          c.due("the slot beside it", x.slot(7, 1, 0), -5);
          c.due("the slot of another site", x.slot(0, 2, 0), -5);
        });
    s.recorded(Given::world, x -> x.setSlot(2, 0, 9, 9, 9));
    s.test("site: a site", c -> {
      Watched x = Given.eightSites();
      for (int site = 0; site <= 7; site++) {
        c.due("site " + site, x.setSlot(site, 0, 1, 1, 1), 2);
      }
    });
    s.test("slot: 0 to 2", c -> {
      Watched x = Given.eightSites();
      for (int slot = 0; slot <= 2; slot++) {
        c.due("slot " + slot, x.setSlot(7, slot, 1, 1, 1), 2 + slot);
      }
    });
    s.test("place: 0 to 31 ", c -> {
      Watched x = Given.eightSites();
      c.due("the least", x.setSlot(0, 0, 0, 5, 5), 2);
      c.due("it is place 0", x.slot(0, 0, 0), 0);
      c.due("the most", x.setSlot(0, 0, 31, 5, 5), 3);
      c.due("it is place 31", x.slot(0, 0, 0), 31);
    });
    s.test("priority: 0 to 9 ", c -> {
      Watched x = Given.eightSites();
      c.due("the least", x.setSlot(0, 0, 5, 0, 5), 2);
      c.due("it is priority 0", x.slot(0, 0, 1), 0);
      c.due("the most", x.setSlot(0, 0, 5, 9, 5), 3);
      c.due("it is priority 9", x.slot(0, 0, 1), 9);
    });
    s.test("weight: 1 to 9", c -> {
      Watched x = Given.eightSites();
      c.due("the least", x.setSlot(0, 0, 5, 5, 1), 2);
      c.due("it is weight 1", x.slot(0, 0, 2), 1);
      c.due("the most", x.setSlot(0, 0, 5, 5, 9), 3);
      c.due("it is weight 9", x.slot(0, 0, 2), 9);
    });
    s.test("Returns the version of the site then;", c -> {
      Watched x = Given.eightSites();
      c.due("the first time", x.setSlot(3, 0, 1, 1, 1), 2);
      c.due("another slot", x.setSlot(3, 1, 1, 1, 1), 3);
      c.due("the same slot", x.setSlot(3, 1, 2, 2, 2), 4);
      c.due("it is its version", x.site(3, 3), 4);
      c.due("another site", x.setSlot(4, 1, 1, 1, 1), 2);
    });
  }

  private static void setSlotErrors(Sentences s) {
    s.test("BAD_INDEX if there is no such site or slot;", c -> {
      c.due("without sites", new Watched().setSlot(0, 0, 1, 1, 1), -1);
      Watched x = Given.eightSites();
      for (int site : Given.outside(0, 7)) {
        c.due("site " + site, x.setSlot(site, 0, 1, 1, 1), -1);
      }
      for (int slot : Given.outside(0, 2)) {
        c.due("slot " + slot, x.setSlot(7, slot, 1, 1, 1), -1);
      }
      x.undo();
      c.due("a site that is no more", x.setSlot(7, 0, 1, 1, 1), -1);
    });
    s.test("BAD_VALUE if another argument is out of range.", c -> {
      Watched x = Given.eightSites();
      for (int place : Given.outside(0, 31)) {
        c.due("place " + place, x.setSlot(0, 0, place, 1, 1), -2);
      }
      for (int priority : Given.outside(0, 9)) {
        c.due("priority " + priority, x.setSlot(0, 0, 1, priority, 1), -2);
      }
      for (int weight : Given.outside(1, 9)) {
        c.due("weight " + weight, x.setSlot(0, 0, 1, 1, weight), -2);
      }
      c.due("the slot is empty yet", x.slot(0, 0, 0), -5);
      c.due("its version is as before", x.site(0, 3), 1);
    });
  }

  private static void emptySlot(Sentences s) {
    s.test("int emptySlot(int site, int slot): Empties a slot of a site.", c -> {
      Watched x = Given.eightSites();
      for (int slot = 0; slot <= 2; slot++) {
        x.setSlot(6, slot, 1, 1, 1);
        x.setSlot(7, slot, 1, 1, 1);
      }
      x.emptySlot(7, 1);
      for (int slot = 0; slot <= 2; slot++) {
        c.due("slot " + slot + " of 6", x.slot(6, slot, 0), 1);
        c.due("slot " + slot + " of 7", x.slot(7, slot, 0), slot == 1 ? -5 : 1);
      }
    });
    s.recorded(Given::world, x -> x.emptySlot(1, 1));
    s.test("site: a site ", c -> {
      Watched x = Given.eightSites();
      for (int site = 0; site <= 7; site++) {
        x.setSlot(site, 1, 0, 0, 1);
        c.due("site " + site, x.emptySlot(site, 1), 3);
      }
    });
    s.test("slot: 0 to 2", c -> {
      Watched x = Given.eightSites();
      for (int slot = 0; slot <= 2; slot++) {
        x.setSlot(7, slot, 0, 0, 1);
        c.due("slot " + slot, x.emptySlot(7, slot), 3 + 2 * slot);
      }
    });
    s.test("Returns the version of the site then;", c -> {
      Watched x = Given.eightSites();
      x.setSlot(3, 0, 1, 1, 1);
      x.setSlot(3, 1, 1, 1, 1);
      c.due("after two that were set", x.emptySlot(3, 0), 4);
      c.due("the other one", x.emptySlot(3, 1), 5);
      c.due("it is its version", x.site(3, 3), 5);
    });
    s.test("BAD_INDEX if there is no such site or slot;", c -> {
      c.due("without sites", new Watched().emptySlot(0, 0), -1);
      Watched x = Given.eightSites();
      x.setSlot(7, 0, 1, 1, 1);
      x.setSlot(7, 2, 1, 1, 1);
      for (int site : Given.outside(0, 7)) {
        c.due("site " + site, x.emptySlot(site, 0), -1);
      }
      for (int slot : Given.outside(0, 2)) {
        c.due("slot " + slot, x.emptySlot(7, slot), -1);
      }
    });
    s.test("NOT_POSSIBLE if the slot is empty.", c -> {
      Watched x = Given.eightSites();
      c.due("it was never set", x.emptySlot(7, 2), -3);
      x.setSlot(7, 1, 1, 1, 1);
      x.setSlot(6, 2, 1, 1, 1);
      c.due("others are not empty", x.emptySlot(7, 2), -3);
      x.setSlot(7, 2, 0, 0, 1);
      c.due("place 0 is a place", x.emptySlot(7, 2), 4);
      c.due("it was emptied", x.emptySlot(7, 2), -3);
    });
  }

  private static void register(Sentences s) {
    s.test("int register(int site): Registers a site, whether it is registered or not: its registration "
        + "ends at the hour that is now plus its life.", c -> {
          Watched x = new Watched();
          x.addSite(0, 1, 10);
          c.due("it is not", x.register(0), 10);
          c.due("it is, in the same hour", x.register(0), 10);
          x.pass(9);
          c.due("it is, in its last hour", x.register(0), 19);
          x.pass(10);
          c.due("it has ended", x.register(0), 29);
          x.unregister(0);
          c.due("it was ended", x.register(0), 29);
          c.due("its end", x.site(0, 4), 29);
          Given.untilHour(x, 9999);
          c.due("in the last hour", x.register(0), 10009);
          c.due("without a slot", x.site(0, 6), 0);
        });
    s.recorded(Given::world, x -> x.register(1));
    s.test("site: a site", c -> {
      Watched x = Given.eightSites();
      for (int site = 0; site <= 7; site++) {
        c.due("site " + site, x.register(site), 1 + site);
      }
    });
    s.test("Returns the hour at which it ends;", c -> {
      Watched x = new Watched();
      x.addSite(0, 1, 1);
      x.addSite(1, 1, 48);
      c.due("the shortest life", x.register(0), 1);
      c.due("the longest life", x.register(1), 48);
      Given.untilHour(x, 9999);
      c.due("the latest hour of all", x.register(1), 10047);
      c.due("it is its end", x.site(1, 4), 10047);
      c.due("it holds", x.unregister(1), 48);
    });
    s.test("BAD_INDEX if there is no such site.", c -> {
      c.due("without sites", new Watched().register(0), -1);
      Watched x = Given.eightSites();
      for (int site : Given.outside(0, 7)) {
        c.due("site " + site, x.register(site), -1);
      }
      x.undo();
      c.due("a site that is no more", x.register(7), -1);
    });
  }

  private static void unregister(Sentences s) {
    s.test("int unregister(int site): Ends the registration of a site now.", c -> {
      Watched x = Given.twoSites();
      x.pass(3);
      x.unregister(1);
      c.due("its end", x.site(1, 4), 3);
      c.due("it is not up", x.site(1, 6), 0);
      c.due("it is no answer", x.answer(5), 0);
      c.due("the other one is up", x.site(0, 6), 1);
      c.due("one registration holds", x.endingNext(1), -5);
      c.due("its slots stay", x.slot(1, 0, 0), 2);
    });
    s.recorded(Given::world, x -> x.unregister(1));
    s.test("site: a site", c -> {
      Watched x = Given.eightSites();
      for (int site = 0; site <= 7; site++) {
        x.register(site);
        c.due("site " + site, x.unregister(site), 1 + site);
      }
    });
    s.test("Returns how many hours it would have held yet;", c -> {
      Watched x = new Watched();
      x.addSite(0, 1, 48);
      x.register(0);
      c.due("all of them", x.unregister(0), 48);
      x.register(0);
      x.pass(47);
      c.due("the last one", x.unregister(0), 1);
      Given.untilHour(x, 9999);
      x.register(0);
      c.due("beyond the last hour", x.unregister(0), 48);
    });
    s.test("BAD_INDEX if there is no such site;", c -> {
      c.due("without sites", new Watched().unregister(0), -1);
      Watched x = Given.eightSites();
      x.register(7);
      for (int site : Given.outside(0, 7)) {
        c.due("site " + site, x.unregister(site), -1);
      }
    });
    s.test("NOT_POSSIBLE if its registration does not hold now.", c -> {
      Watched x = new Watched();
      x.addSite(0, 1, 3);
      c.due("never registered", x.unregister(0), -3);
      x.register(0);
      x.unregister(0);
      c.due("ended in this hour", x.unregister(0), -3);
      x.register(0);
      x.pass(3);
      c.due("at its end", x.unregister(0), -3);
      x.pass(1);
      c.due("after its end", x.unregister(0), -3);
      c.due("its end stays", x.site(0, 4), 3);
    });
  }
}
