/** Worlds that tests begin with, and steps that many of them take. */
final class Given {
  static final int LIFE = 48;

  private Given() {
  }

  /** Numbers that are out of a range: those beside it, the least, the most, and some far away. */
  static int[] outside(int lowest, int highest) {
    return new int[] {lowest - 1, highest + 1, Integer.MIN_VALUE, Integer.MIN_VALUE + 1,
        Integer.MAX_VALUE, Integer.MAX_VALUE - 1, lowest - 256, highest + 256, lowest - 65536,
        highest + 65536, -1 - highest, 1 << 30};
  }

  /** A site that is up, with one place in slot 0 and the longest life. */
  static int siteUp(Watched x, int first, int size, int place) {
    int site = x.addSite(first, size, LIFE);
    x.setSlot(site, 0, place, 0, 1);
    x.register(site);
    return site;
  }

  /** Sites from number 0 on, each up, with one name (its number) and the place 10 more; a router. */
  static Watched sitesOfOneName(int sites) {
    Watched x = new Watched();
    for (int site = 0; site < sites; site++) {
      siteUp(x, site, 1, 10 + site);
    }
    x.addRouter();
    return x;
  }

  /** Site 0 with all names and place 1, site 1 with names 0 to 63 and place 2, both up; a router. */
  static Watched twoSites() {
    Watched x = new Watched();
    siteUp(x, 0, 256, 1);
    siteUp(x, 0, 64, 2);
    x.addRouter();
    return x;
  }

  /** Site 0 with all names and place 1, which is up; a router. */
  static Watched oneSite() {
    Watched x = new Watched();
    siteUp(x, 0, 256, 1);
    x.addRouter();
    return x;
  }

  /** Servers 0 to 7, each but the first one with the first half of the block of the one before. */
  static Watched chainOfServers() {
    Watched x = new Watched();
    for (int server = 0; server < 7; server++) {
      x.addServer(server, 0, 128 >> server);
    }
    return x;
  }

  static Watched eightSites() {
    Watched x = new Watched();
    for (int site = 0; site < 8; site++) {
      x.addSite(8 * site, 8, 1 + site);
    }
    return x;
  }

  static Watched fourRouters() {
    Watched x = new Watched();
    for (int router = 0; router < 4; router++) {
      x.addRouter();
    }
    return x;
  }

  /**
   * Something of everything: a marked map, an old one that was met, a text. Slot 0 has an earlier
   * state, slot 1 that of a new object.
   */
  static Watched world() {
    Watched x = new Watched();
    x.save(1);
    x.addServer(0, 0, 128);
    x.addServer(1, 64, 64);
    siteUp(x, 0, 128, 1);
    siteUp(x, 64, 64, 2);
    siteUp(x, 192, 64, 3);
    x.addRouter();
    x.addRouter();
    x.pass(3);
    x.send(0, 70, 1);
    x.send(0, 5, 0);
    x.send(1, 200, 2);
    x.send(1, 130, 3);
    x.setSlot(1, 1, 9, 0, 4);
    x.send(0, 70, 0);
    x.unregister(2);
    x.send(1, 200, 0);
    x.register(2);
    x.setMapLife(20);
    x.send(1, 201, 0);
    x.save(0);
    x.setSlot(0, 2, 30, 9, 9);
    x.pass(2);
    x.forget(1);
    x.send(1, 64, 99);
    text(x, "t1;s1n6f7;r0;");
    return x;
  }

  /** Made on a new state: a world that differs in everything from the other one. */
  static void buildOtherWorld(Watched x) {
    x.pass(1);
    x.setMapLife(33);
    x.addServer(0, 128, 64);
    x.addServer(0, 64, 32);
    x.addServer(1, 160, 1);
    int[][] sites = {{64, 32, 11}, {128, 32, 12}, {0, 256, 13}, {160, 1, 14}};
    for (int[] site : sites) {
      int number = x.addSite(site[0], site[1], site[2]);
      x.setSlot(number, 2 - number % 2, 20 + number, 5, 2 + number);
      x.setSlot(number, 0, 25 + number, 6, 3);
      x.register(number);
    }
    for (int router = 0; router <= 2; router++) {
      x.addRouter();
      for (int name = 32; name < 256 - 64 * router; name += 32) {
        x.send(router, name, router);
      }
    }
    x.setSlot(0, 1, 7, 7, 7);
    x.send(0, 64, 0);
    x.send(2, 65, 0);
    x.unregister(1);
    x.send(1, 129, 0);
  }

  /** The same state with one state in the history; what slot 0 held is lost. */
  static Watched withOneState(Watched x) {
    x.save(0);
    while (x.undo() > 0) {
      continue;
    }
    x.restore(0);
    return x;
  }

  static void untilHour(Watched x, int hour) {
    int now = x.total(0);
    while (now < hour) {
      now = x.pass(Math.min(99, hour - now));
    }
  }

  /** Writes a text in place of what is there. */
  static void text(Watched x, String text) {
    x.clearText();
    for (int n = 0; n < text.length(); n++) {
      x.append(text.charAt(n));
    }
  }

  static Watched withText(String text) {
    Watched x = new Watched();
    text(x, text);
    return x;
  }

  /** The fault position of a text. */
  static int faultOf(String text) {
    return withText(text).faultPosition();
  }

  static int runOf(Watched x, String text) {
    text(x, text);
    return x.run();
  }
}
