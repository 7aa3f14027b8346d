/** All that can be looked at in an object, as one text, so that two moments can be compared. */
final class Looks {
  private static final int SERVERS = 8;
  private static final int SITES = 8;
  private static final int ROUTERS = 4;
  private static final int MAPS = 5;

  private Looks() {
  }

  /** What belongs to the state: all but the history and the text. */
  static String ofState(NameMaps x) {
    return ofState(new Face(x));
  }

  static String ofAll(NameMaps x) {
    return ofAll(new Face(x));
  }

  private static String ofState(Face x) {
    StringBuilder out = new StringBuilder();
    for (int property = 0; property <= 13; property++) {
      if (property != 11 && property != 12) {
        add(out, "total", x.call("total", property));
      }
    }
    for (int server = 0; server < SERVERS; server++) {
      for (int property = 0; property <= 5; property++) {
        add(out, "server", x.call("server", server, property));
      }
    }
    addSites(out, x);
    addRouters(out, x);
    for (int name = 0; name < 256; name++) {
      add(out, "answer", x.call("answer", name));
      add(out, "home", x.call("way", name, 0));
      add(out, "hops", x.call("way", name, 1));
    }
    return out.toString();
  }

  static String ofAll(Face x) {
    StringBuilder out = new StringBuilder(ofState(x));
    add(out, "states", x.call("total", 11));
    add(out, "length", x.call("total", 12));
    add(out, "fault", x.call("faultPosition"));
    return out.toString();
  }

  private static void addSites(StringBuilder out, Face x) {
    for (int site = 0; site < SITES; site++) {
      for (int property = 0; property <= 7; property++) {
        add(out, "site", x.call("site", site, property));
      }
      for (int slot = 0; slot < 3; slot++) {
        for (int property = 0; property <= 2; property++) {
          add(out, "slot", x.call("slot", site, slot, property));
        }
      }
      for (int place = 0; place < 32; place++) {
        add(out, "share", x.call("share", site, place));
      }
      add(out, "ending", x.call("endingNext", site));
    }
  }

  private static void addRouters(StringBuilder out, Face x) {
    for (int router = 0; router < ROUTERS; router++) {
      for (int property = 0; property <= 5; property++) {
        add(out, "router", x.call("router", router, property));
      }
      for (int place = 0; place < MAPS; place++) {
        for (int property = 0; property <= 4; property++) {
          add(out, "map", x.call("map", router, place, property));
        }
      }
    }
  }

  private static void add(StringBuilder out, String what, int answer) {
    out.append(what).append(' ').append(answer).append('\n');
  }
}
