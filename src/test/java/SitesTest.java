/**
 * Promises 3 (addSite), 5 (setSlot), 6 (emptySlot), 7 (register), 8 (unregister), 21 (site),
 * 22 (slot), 25 (answer), 27 (endingNext) and 31 (share).
 */
public final class SitesTest {
  private static final Check check = new Check();

  public static void main(String[] args) {
    adding();
    settingSlots();
    emptyingSlots();
    registering();
    unregistering();
    properties();
    slotProperties();
    answers();
    answersAndHomes();
    endings();
    shares();
    check.end();
  }

  private static void adding() {
    Watched x = new Watched();
    check.due("size 3", x.addSite(0, 3, 1), -2);
    check.due("size 0", x.addSite(0, 0, 1), -2);
    check.due("size 512", x.addSite(0, 512, 1), -2);
    check.due("size least", x.addSite(0, Integer.MIN_VALUE, 1), -2);
    check.due("first 2, size 4", x.addSite(2, 4, 1), -2);
    check.due("first -4, size 4", x.addSite(-4, 4, 1), -2);
    check.due("first 256, size 4", x.addSite(256, 4, 1), -2);
    check.due("life 0", x.addSite(0, 4, 0), -2);
    check.due("life 49", x.addSite(0, 4, 49), -2);
    check.due("life least", x.addSite(0, 4, Integer.MIN_VALUE), -2);
    check.due("nothing was recorded", x.total(11), 0);
    check.due("life 1", x.addSite(0, 4, 1), 0);
    check.due("the block of site 0", x.addSite(0, 4, 2), -3);
    check.due("life 48", x.addSite(4, 4, 48), 1);
    check.due("the same block", x.addSite(4, 4, 3), -3);
    check.due("value ahead of not possible", x.addSite(4, 4, 49), -2);
    check.due("all names", x.addSite(0, 256, 3), 2);
    check.due("the last name", x.addSite(255, 1, 3), 3);
    check.due("first 4, size 2", x.addSite(4, 2, 3), 4);
    check.due("first 4, size 1", x.addSite(4, 1, 3), 5);
    x.addSite(8, 8, 3);
    check.due("the eighth", x.addSite(16, 16, 3), 7);
    check.due("not possible ahead of full", x.addSite(16, 16, 3), -3);
    check.due("value ahead of full", x.addSite(16, 15, 3), -2);
    check.due("full", x.addSite(32, 16, 3), -4);
    check.due("states", x.total(11), 5);
  }

  private static void settingSlots() {
    Watched x = new Watched();
    check.due("no site", x.setSlot(0, 0, 0, 0, 1), -1);
    x.addSite(0, 4, 1);
    check.due("site -1", x.setSlot(-1, 0, 0, 0, 1), -1);
    check.due("site 1", x.setSlot(1, 0, 0, 0, 1), -1);
    check.due("slot -1", x.setSlot(0, -1, 0, 0, 1), -1);
    check.due("slot 3", x.setSlot(0, 3, 0, 0, 1), -1);
    check.due("slot most", x.setSlot(0, Integer.MAX_VALUE, 0, 0, 1), -1);
    check.due("index ahead of value", x.setSlot(0, 3, 32, 10, 10), -1);
    check.due("place -1", x.setSlot(0, 0, -1, 0, 1), -2);
    check.due("place 32", x.setSlot(0, 0, 32, 0, 1), -2);
    check.due("priority -1", x.setSlot(0, 0, 0, -1, 1), -2);
    check.due("priority 10", x.setSlot(0, 0, 0, 10, 1), -2);
    check.due("weight 0", x.setSlot(0, 0, 0, 0, 0), -2);
    check.due("weight 10", x.setSlot(0, 0, 0, 0, 10), -2);
    check.due("weight least", x.setSlot(0, 0, 0, 0, Integer.MIN_VALUE), -2);
    check.due("the version is as before", x.site(0, 3), 1);
    check.due("states", x.total(11), 1);
    check.due("lowest", x.setSlot(0, 0, 0, 0, 1), 2);
    check.due("highest", x.setSlot(0, 2, 31, 9, 9), 3);
    check.due("the same again", x.setSlot(0, 2, 31, 9, 9), 4);
    check.due("slot 1 is empty", x.slot(0, 1, 0), -5);
    check.due("version", x.site(0, 3), 4);
  }

  private static void emptyingSlots() {
    Watched x = new Watched();
    x.addSite(0, 4, 1);
    x.addSite(4, 4, 1);
    x.setSlot(0, 1, 5, 5, 5);
    check.due("no site", x.emptySlot(2, 0), -1);
    check.due("site -1", x.emptySlot(-1, 0), -1);
    check.due("slot 3", x.emptySlot(0, 3), -1);
    check.due("slot -1", x.emptySlot(0, -1), -1);
    check.due("slot least", x.emptySlot(0, Integer.MIN_VALUE), -1);
    check.due("an empty one", x.emptySlot(0, 0), -3);
    check.due("an empty one of another site", x.emptySlot(1, 1), -3);
    check.due("version ahead", x.site(0, 3), 2);
    check.due("a set one", x.emptySlot(0, 1), 3);
    check.due("it is empty then", x.slot(0, 1, 0), -5);
    check.due("again", x.emptySlot(0, 1), -3);
    check.due("version", x.site(0, 3), 3);
    check.due("set again", x.setSlot(0, 1, 0, 0, 1), 4);
    check.due("place 0 is not empty", x.slot(0, 1, 0), 0);
    check.due("place 0 can be emptied", x.emptySlot(0, 1), 5);
  }

  private static void registering() {
    Watched x = new Watched();
    x.addSite(0, 4, 5);
    check.due("site 1", x.register(1), -1);
    check.due("site -1", x.register(-1), -1);
    check.due("site most", x.register(Integer.MAX_VALUE), -1);
    check.due("never registered", x.site(0, 4), 0);
    check.due("at hour 0", x.register(0), 5);
    x.setSlot(0, 0, 1, 1, 1);
    check.due("up", x.site(0, 6), 1);
    x.pass(4);
    check.due("up in the hour before", x.site(0, 6), 1);
    check.due("at hour 4", x.register(0), 9);
    x.pass(5);
    check.due("not up at the end", x.site(0, 6), 0);
    check.due("end stays", x.site(0, 4), 9);
    check.due("at hour 9", x.register(0), 14);
    for (int n = 0; n < 100; n++) {
      x.pass(99);
    }
    check.due("pass to 9999", x.pass(90), 9999);
    check.due("beyond hour 9999", x.register(0), 10004);
    check.due("up at hour 9999", x.site(0, 6), 1);
  }

  private static void unregistering() {
    Watched x = new Watched();
    x.addSite(0, 4, 5);
    check.due("site 1", x.unregister(1), -1);
    check.due("site -1", x.unregister(-1), -1);
    check.due("never registered", x.unregister(0), -3);
    x.register(0);
    check.due("at once", x.unregister(0), 5);
    check.due("end at hour 0", x.site(0, 4), 0);
    check.due("again", x.unregister(0), -3);
    x.register(0);
    x.pass(4);
    check.due("in the hour before its end", x.unregister(0), 1);
    check.due("the hour of that", x.site(0, 4), 4);
    x.register(0);
    x.pass(5);
    check.due("at its end", x.unregister(0), -3);
    check.due("end stays", x.site(0, 4), 9);
  }

  private static void properties() {
    Watched x = new Watched();
    x.addServer(0, 64, 64);
    x.addSite(64, 32, 7);
    x.addSite(0, 128, 8);
    x.setSlot(0, 0, 1, 2, 3);
    x.register(0);
    x.addRouter();
    x.addRouter();
    x.addRouter();
    x.send(0, 64, 0);
    x.send(2, 65, 0);
    int[] due = {64, 32, 7, 2, 7, 1, 1, 2};
    for (int property = 0; property < due.length; property++) {
      check.due("site(0, " + property + ")", x.site(0, property), due[property]);
    }
    int[] dueOfOther = {0, 128, 8, 1, 0, 0, 0, 0};
    for (int property = 0; property < dueOfOther.length; property++) {
      check.due("site(1, " + property + ")", x.site(1, property), dueOfOther[property]);
    }
    x.pass(10);
    check.due("maps that do not hold count", x.site(0, 7), 2);
    x.forget(2);
    check.due("maps after forget", x.site(0, 7), 1);
    check.due("site 2", x.site(2, 0), -1);
    check.due("site -1", x.site(-1, 0), -1);
    check.due("index ahead of value", x.site(2, 8), -1);
    check.due("property 8", x.site(0, 8), -2);
    check.due("property -1", x.site(0, -1), -2);
    x.addServer(1, 64, 32);
    check.due("a server with the same block is the home", x.site(0, 5), 2);
    x.addServer(2, 64, 16);
    check.due("a smaller one is not", x.site(0, 5), 2);
  }

  private static void slotProperties() {
    Watched x = new Watched();
    x.addSite(0, 4, 5);
    x.setSlot(0, 2, 31, 9, 8);
    check.due("place", x.slot(0, 2, 0), 31);
    check.due("priority", x.slot(0, 2, 1), 9);
    check.due("weight", x.slot(0, 2, 2), 8);
    x.setSlot(0, 2, 0, 0, 1);
    check.due("place 0", x.slot(0, 2, 0), 0);
    check.due("priority 0", x.slot(0, 2, 1), 0);
    check.due("weight 1", x.slot(0, 2, 2), 1);
    check.due("empty", x.slot(0, 1, 2), -5);
    check.due("value ahead of none", x.slot(0, 1, 3), -2);
    check.due("property -1", x.slot(0, 2, -1), -2);
    check.due("property 3", x.slot(0, 2, 3), -2);
    check.due("site 1", x.slot(1, 0, 0), -1);
    check.due("site -1", x.slot(-1, 0, 0), -1);
    check.due("slot 3", x.slot(0, 3, 0), -1);
    check.due("slot -1", x.slot(0, -1, 0), -1);
    check.due("index ahead of value", x.slot(0, 3, 3), -1);
    check.due("most", x.slot(0, Integer.MAX_VALUE, Integer.MAX_VALUE), -1);
  }

  private static void answers() {
    Watched x = new Watched();
    x.addSite(0, 256, 48);
    x.addSite(0, 64, 10);
    x.addSite(32, 16, 5);
    for (int site = 0; site < 3; site++) {
      x.register(site);
      check.due("registered without slots", x.answer(32), site == 0 ? -5 : site - 1);
      x.setSlot(site, site, 1, 1, 1);
    }
    int[][] due = {{0, 1}, {31, 1}, {32, 2}, {47, 2}, {48, 1}, {63, 1}, {64, 0}, {255, 0}};
    for (int[] row : due) {
      check.due("answer(" + row[0] + ")", x.answer(row[0]), row[1]);
    }
    x.pass(5);
    check.due("the smallest ended", x.answer(32), 1);
    x.pass(5);
    check.due("the next one ended", x.answer(32), 0);
    x.emptySlot(0, 0);
    check.due("none is up", x.answer(32), -5);
    x.setSlot(0, 0, 1, 1, 1);
    x.register(2);
    x.addSite(0, 128, 48);
    x.setSlot(3, 0, 1, 1, 1);
    x.register(3);
    check.due("the smallest one, with a larger one behind it", x.answer(40), 2);
    check.due("the smaller one, behind a larger one", x.answer(63), 3);
    check.due("answer(-1)", x.answer(-1), -2);
    check.due("answer(256)", x.answer(256), -2);
    check.due("answer(least)", x.answer(Integer.MIN_VALUE), -2);
  }

  private static void answersAndHomes() {
    Watched x = new Watched();
    x.addSite(0, 256, 48);
    x.addSite(64, 64, 48);
    x.addSite(64, 16, 48);
    for (int site = 0; site < 3; site++) {
      x.setSlot(site, 0, site, 0, 1);
      x.register(site);
    }
    check.due("one home", x.answer(90), 1);
    x.addServer(0, 64, 32);
    check.due("of another home than the sites around", x.answer(90), -5);
    check.due("of the home of the smaller site", x.answer(64), 2);
    check.due("of the outer home", x.answer(96), 1);
    x.addServer(1, 64, 8);
    check.due("the site's block is not in the new server's", x.answer(64), -5);
    check.due("beside the new server", x.answer(72), 2);
  }

  private static void endings() {
    Watched x = new Watched();
    x.addSite(0, 1, 9);
    x.addSite(1, 1, 3);
    x.addSite(2, 1, 9);
    x.addSite(3, 1, 1);
    x.addSite(4, 1, 2);
    for (int site = 0; site < 4; site++) {
      x.register(site);
    }
    int[] due = {3, 1, 0, 2, -5};
    for (int place = 0; place < due.length; place++) {
      check.due("endingNext(" + place + ")", x.endingNext(place), due[place]);
    }
    check.due("endingNext(-1)", x.endingNext(-1), -2);
    check.due("endingNext(least)", x.endingNext(Integer.MIN_VALUE), -2);
    check.due("endingNext(most)", x.endingNext(Integer.MAX_VALUE), -5);
    x.pass(1);
    check.due("ended ones are left out", x.endingNext(0), 1);
    x.register(0);
    check.due("the one with the later end", x.endingNext(2), 0);
    x.unregister(2);
    check.due("without an unregistered one", x.endingNext(1), 0);
    check.due("fewer then", x.endingNext(2), -5);
  }

  private static void shares() {
    Watched x = new Watched();
    x.addSite(0, 1, 9);
    check.due("all slots empty, place 0", x.share(0, 0), 0);
    x.setSlot(0, 0, 5, 3, 9);
    check.due("alone", x.share(0, 5), 100);
    x.setSlot(0, 1, 6, 3, 7);
    check.due("9 of 16", x.share(0, 5), 58);
    check.due("7 of 16", x.share(0, 6), 42);
    x.setSlot(0, 2, 5, 3, 1);
    check.due("10 of 17, in two slots", x.share(0, 5), 59);
    check.due("7 of 17", x.share(0, 6), 41);
    x.setSlot(0, 2, 0, 2, 1);
    check.due("the lowest priority alone", x.share(0, 0), 100);
    check.due("a higher priority", x.share(0, 5), 0);
    check.due("a place that is not there", x.share(0, 31), 0);
    check.due("site 1", x.share(1, 0), -1);
    check.due("site -1", x.share(-1, 0), -1);
    check.due("place -1", x.share(0, -1), -2);
    check.due("place 32", x.share(0, 32), -2);
    check.due("index ahead of value", x.share(1, 32), -1);
  }
}
