import java.util.ArrayList;
import java.util.List;

/**
 * A NameMaps whose calls are counted and noted. No test may ask an object for more than the document
 * promises, 512 calls; what the calls led to can be looked at by making them again on new objects.
 */
final class Watched {
  static final int MOST_CALLS = 512;

  record Call(String name, int... arguments) {
  }

  private final NameMaps inner = new NameMaps();
  private final List<Call> calls = new ArrayList<>();

  int call(String name, int... a) {
    calls.add(new Call(name, a.clone()));
    if (calls.size() > MOST_CALLS) {
      throw new IllegalStateException("a test made more than " + MOST_CALLS + " calls");
    }
    return make(name, a);
  }

  List<Call> calls() {
    return List.copyOf(calls);
  }

  /** A new object on which the same calls were made. */
  Watched again() {
    Watched other = new Watched();
    for (Call call : calls) {
      other.call(call.name, call.arguments);
    }
    return other;
  }

  private int make(String name, int... a) {
    return switch (name) {
      case "addServer" -> inner.addServer(a[0], a[1], a[2]);
      case "addSite" -> inner.addSite(a[0], a[1], a[2]);
      case "addRouter" -> inner.addRouter();
      case "setSlot" -> inner.setSlot(a[0], a[1], a[2], a[3], a[4]);
      case "emptySlot" -> inner.emptySlot(a[0], a[1]);
      case "register" -> inner.register(a[0]);
      case "unregister" -> inner.unregister(a[0]);
      case "setMapLife" -> inner.setMapLife(a[0]);
      case "send" -> inner.send(a[0], a[1], a[2]);
      case "pass" -> inner.pass(a[0]);
      case "forget" -> inner.forget(a[0]);
      case "append" -> inner.append(a[0]);
      case "clearText" -> inner.clearText();
      case "faultPosition" -> inner.faultPosition();
      case "run" -> inner.run();
      case "undo" -> inner.undo();
      case "save" -> inner.save(a[0]);
      case "restore" -> inner.restore(a[0]);
      case "server" -> inner.server(a[0], a[1]);
      case "site" -> inner.site(a[0], a[1]);
      case "slot" -> inner.slot(a[0], a[1], a[2]);
      case "router" -> inner.router(a[0], a[1]);
      case "map" -> inner.map(a[0], a[1], a[2]);
      case "answer" -> inner.answer(a[0]);
      case "way" -> inner.way(a[0], a[1]);
      case "endingNext" -> inner.endingNext(a[0]);
      case "total" -> inner.total(a[0]);
      case "wouldReach" -> inner.wouldReach(a[0], a[1], a[2], a[3]);
      case "wouldAsk" -> inner.wouldAsk(a[0], a[1], a[2]);
      case "share" -> inner.share(a[0], a[1]);
      default -> throw new IllegalStateException("no such call: " + name);
    };
  }

  int addServer(int parent, int first, int size) {
    return call("addServer", parent, first, size);
  }

  int addSite(int first, int size, int life) {
    return call("addSite", first, size, life);
  }

  int addRouter() {
    return call("addRouter");
  }

  int setSlot(int site, int slot, int place, int priority, int weight) {
    return call("setSlot", site, slot, place, priority, weight);
  }

  int emptySlot(int site, int slot) {
    return call("emptySlot", site, slot);
  }

  int register(int site) {
    return call("register", site);
  }

  int unregister(int site) {
    return call("unregister", site);
  }

  int setMapLife(int life) {
    return call("setMapLife", life);
  }

  int send(int router, int name, int flow) {
    return call("send", router, name, flow);
  }

  int pass(int hours) {
    return call("pass", hours);
  }

  int forget(int router) {
    return call("forget", router);
  }

  int append(int b) {
    return call("append", b);
  }

  int clearText() {
    return call("clearText");
  }

  int faultPosition() {
    return call("faultPosition");
  }

  int run() {
    return call("run");
  }

  int undo() {
    return call("undo");
  }

  int save(int slot) {
    return call("save", slot);
  }

  int restore(int slot) {
    return call("restore", slot);
  }

  int server(int server, int property) {
    return call("server", server, property);
  }

  int site(int site, int property) {
    return call("site", site, property);
  }

  int slot(int site, int slot, int property) {
    return call("slot", site, slot, property);
  }

  int router(int router, int property) {
    return call("router", router, property);
  }

  int map(int router, int place, int property) {
    return call("map", router, place, property);
  }

  int answer(int name) {
    return call("answer", name);
  }

  int way(int name, int which) {
    return call("way", name, which);
  }

  int endingNext(int place) {
    return call("endingNext", place);
  }

  int total(int property) {
    return call("total", property);
  }

  int wouldReach(int router, int name, int flow, int hours) {
    return call("wouldReach", router, name, flow, hours);
  }

  int wouldAsk(int router, int name, int flow) {
    return call("wouldAsk", router, name, flow);
  }

  int share(int site, int place) {
    return call("share", site, place);
  }
}
