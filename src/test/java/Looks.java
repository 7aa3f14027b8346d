import java.util.ArrayList;
import java.util.List;

/**
 * All that can be looked at in an object, as one text, so that two moments can be compared. To look at
 * all takes more calls than an object has, so the calls that led to a moment are made again on as many
 * new objects as it needs.
 */
final class Looks {
  private static final int SERVERS = 8;
  private static final int SITES = 8;
  private static final int ROUTERS = 4;
  private static final int MAPS = 5;
  private static final int STATES = 5;
  private static final int[] FLOWS = {0, 1, 2, 5, 11};

  private static final List<Watched.Call> OF_STATE = callsOfState();
  private static final List<Watched.Call> OF_ALL = callsOfAll();

  private Looks() {
  }

  /** What belongs to the state: all but the history and the text. */
  static String ofState(Watched x) {
    return look(x.calls(), OF_STATE);
  }

  static String ofAll(Watched x) {
    return look(x.calls(), OF_ALL);
  }

  /** Also the states of the history, those of the slots of save(), and what the text would do. */
  static String ofEverything(Watched x) {
    StringBuilder out = new StringBuilder(ofAll(x));
    List<Watched.Call> calls = new ArrayList<>(x.calls());
    for (int slot = 0; slot <= 1; slot++) {
      out.append("restored\n").append(lookAfter(calls, new Watched.Call("restore", slot)));
    }
    out.append("run\n").append(lookAfter(calls, new Watched.Call("run")));
    for (int n = 0; n < STATES; n++) {
      calls.add(new Watched.Call("undo"));
      out.append("undone\n").append(look(calls, OF_STATE));
    }
    return out.toString();
  }

  /** The Model may be asked as often as one likes. */
  static String ofAll(Face model) {
    StringBuilder out = new StringBuilder();
    for (Watched.Call look : OF_ALL) {
      add(out, look, model.call(look.name(), look.arguments()));
    }
    return out.toString();
  }

  private static String lookAfter(List<Watched.Call> calls, Watched.Call more) {
    List<Watched.Call> longer = new ArrayList<>(calls);
    longer.add(more);
    return look(longer, OF_STATE);
  }

  private static String look(List<Watched.Call> calls, List<Watched.Call> looks) {
    int room = Watched.MOST_CALLS - calls.size();
    if (room <= 0) {
      throw new IllegalStateException("a test has left no call to look with");
    }
    StringBuilder out = new StringBuilder();
    for (int from = 0; from < looks.size(); from += room) {
      Watched x = new Watched();
      for (Watched.Call call : calls) {
        x.call(call.name(), call.arguments());
      }
      for (Watched.Call look : looks.subList(from, Math.min(looks.size(), from + room))) {
        add(out, look, x.call(look.name(), look.arguments()));
      }
    }
    return out.toString();
  }

  private static void add(StringBuilder out, Watched.Call look, int answer) {
    out.append(look.name());
    for (int argument : look.arguments()) {
      out.append(' ').append(argument);
    }
    out.append(": ").append(answer).append('\n');
  }

  private static List<Watched.Call> callsOfAll() {
    List<Watched.Call> looks = new ArrayList<>(callsOfState());
    looks.add(new Watched.Call("total", 11));
    looks.add(new Watched.Call("total", 12));
    looks.add(new Watched.Call("faultPosition"));
    return looks;
  }

  private static List<Watched.Call> callsOfState() {
    List<Watched.Call> looks = new ArrayList<>();
    for (int property = 0; property <= 13; property++) {
      if (property != 11 && property != 12) {
        looks.add(new Watched.Call("total", property));
      }
    }
    for (int server = 0; server < SERVERS; server++) {
      addProperties(looks, 5, "server", server);
    }
    for (int site = 0; site < SITES; site++) {
      addSite(looks, site);
    }
    for (int router = 0; router < ROUTERS; router++) {
      addRouter(looks, router);
    }
    for (int name = 0; name < 256; name++) {
      looks.add(new Watched.Call("answer", name));
      looks.add(new Watched.Call("way", name, 0));
      looks.add(new Watched.Call("way", name, 1));
    }
    return looks;
  }

  private static void addSite(List<Watched.Call> looks, int site) {
    addProperties(looks, 7, "site", site);
    for (int slot = 0; slot < 3; slot++) {
      addProperties(looks, 2, "slot", site, slot);
    }
    addProperties(looks, 31, "share", site);
    looks.add(new Watched.Call("endingNext", site));
  }

  /** The slots that a map has a copy of are seen only by what letters would reach. */
  private static void addRouter(List<Watched.Call> looks, int router) {
    addProperties(looks, 5, "router", router);
    for (int place = 0; place < MAPS; place++) {
      addProperties(looks, 4, "map", router, place);
    }
    for (int name = 0; name < 256; name += 16) {
      for (int flow : FLOWS) {
        looks.add(new Watched.Call("wouldReach", router, name, flow, 0));
      }
    }
  }

  private static void addProperties(List<Watched.Call> looks, int last, String name, int... of) {
    for (int property = 0; property <= last; property++) {
      int[] arguments = new int[of.length + 1];
      System.arraycopy(of, 0, arguments, 0, of.length);
      arguments[of.length] = property;
      looks.add(new Watched.Call(name, arguments));
    }
  }
}
