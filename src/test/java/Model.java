import java.util.ArrayList;
import java.util.Comparator;
import java.util.List;
import java.util.Optional;
import java.util.regex.Matcher;
import java.util.regex.Pattern;
import java.util.stream.IntStream;

/**
 * The document once more, written apart from the program and with the Java library: values that never
 * change, lists and regular expressions in place of rows that are used again. What the two answer is
 * compared by ModelTest.
 */
final class Model {
  private static final int BAD_INDEX = -1;
  private static final int BAD_VALUE = -2;
  private static final int NOT_POSSIBLE = -3;
  private static final int FULL = -4;
  private static final int NONE = -5;

  record Block(int first, int size) {
    static boolean is(int first, int size) {
      return List.of(1, 2, 4, 8, 16, 32, 64, 128, 256).contains(size)
          && first >= 0 && first <= 255 && first % size == 0;
    }

    IntStream names() {
      return IntStream.range(first, first + size);
    }

    boolean has(int name) {
      return names().anyMatch(n -> n == name);
    }

    boolean hasAllOf(Block other) {
      return other.names().allMatch(this::has);
    }

    boolean meets(Block other) {
      return other.names().anyMatch(this::has);
    }
  }

  record Slot(int place, int priority, int weight) {
  }

  record Server(int parent, Block block) {
  }

  record Site(Block block, int life, int version, int end, List<Optional<Slot>> slots) {
    Site withEnd(int newEnd) {
      return new Site(block, life, version, newEnd, slots);
    }

    Site withSlot(int index, Optional<Slot> slot) {
      List<Optional<Slot>> changed = new ArrayList<>(slots);
      changed.set(index, slot);
      return new Site(block, life, version + 1, end, List.copyOf(changed));
    }

    boolean up(int hour) {
      return hour < end && slots.stream().anyMatch(Optional::isPresent);
    }
  }

  record CacheMap(int site, Site copy, int end, boolean marked) {
  }

  record Router(List<CacheMap> maps, int asks, int hops, int letters, int proxied, int old) {
    Router withMaps(List<CacheMap> newMaps) {
      return new Router(List.copyOf(newMaps), asks, hops, letters, proxied, old);
    }
  }

  record State(List<Server> servers, List<Site> sites, List<Router> routers, int hour, int life) {
  }

  record Act(char kind, int[] numbers) {
  }

  private State now = new State(
      List.of(new Server(NONE, new Block(0, 256))), List.of(), List.of(), 0, 10);
  private final List<State> history = new ArrayList<>();
  private final State[] saved = new State[2];
  private String text = "";

  private static <T> List<T> with(List<T> list, T more) {
    List<T> longer = new ArrayList<>(list);
    longer.add(more);
    return List.copyOf(longer);
  }

  private static <T> List<T> with(List<T> list, int index, T other) {
    List<T> changed = new ArrayList<>(list);
    changed.set(index, other);
    return List.copyOf(changed);
  }

  private static boolean in(int value, int lowest, int highest) {
    return value >= lowest && value <= highest;
  }

  private static boolean isIn(List<?> list, int index) {
    return in(index, 0, list.size() - 1);
  }

  private int become(State next, int answer) {
    history.add(now);
    if (history.size() > 5) {
      history.remove(0);
    }
    now = next;
    return answer;
  }

  private static State withSites(State s, List<Site> sites) {
    return new State(s.servers, sites, s.routers, s.hour, s.life);
  }

  private static State withRouters(State s, List<Router> routers) {
    return new State(s.servers, s.sites, routers, s.hour, s.life);
  }

  private static State withHour(State s, int hour) {
    return new State(s.servers, s.sites, s.routers, hour, s.life);
  }

  int addServer(int parent, int first, int size) {
    if (!isIn(now.servers, parent)) {
      return BAD_INDEX;
    }
    Block outer = now.servers.get(parent).block;
    if (!Block.is(first, size)) {
      return BAD_VALUE;
    }
    Block block = new Block(first, size);
    if (!outer.hasAllOf(block) || block.hasAllOf(outer)) {
      return BAD_VALUE;
    }
    if (now.servers.stream().anyMatch(s -> s.parent == parent && s.block.meets(block))) {
      return NOT_POSSIBLE;
    }
    if (now.servers.size() == 8) {
      return FULL;
    }
    List<Server> more = with(now.servers, new Server(parent, block));
    return become(new State(more, now.sites, now.routers, now.hour, now.life), more.size() - 1);
  }

  int addSite(int first, int size, int life) {
    if (!Block.is(first, size) || !in(life, 1, 48)) {
      return BAD_VALUE;
    }
    Block block = new Block(first, size);
    if (now.sites.stream().anyMatch(s -> s.block.equals(block))) {
      return NOT_POSSIBLE;
    }
    if (now.sites.size() == 8) {
      return FULL;
    }
    List<Optional<Slot>> slots = List.of(Optional.empty(), Optional.empty(), Optional.empty());
    List<Site> more = with(now.sites, new Site(block, life, 1, 0, slots));
    return become(withSites(now, more), more.size() - 1);
  }

  int addRouter() {
    if (now.routers.size() == 4) {
      return FULL;
    }
    List<Router> more = with(now.routers, new Router(List.of(), 0, 0, 0, 0, 0));
    return become(withRouters(now, more), more.size() - 1);
  }

  int setSlot(int site, int slot, int place, int priority, int weight) {
    if (!isIn(now.sites, site) || !in(slot, 0, 2)) {
      return BAD_INDEX;
    }
    if (!in(place, 0, 31) || !in(priority, 0, 9) || !in(weight, 1, 9)) {
      return BAD_VALUE;
    }
    return changeSlot(site, slot, Optional.of(new Slot(place, priority, weight)));
  }

  int emptySlot(int site, int slot) {
    if (!isIn(now.sites, site) || !in(slot, 0, 2)) {
      return BAD_INDEX;
    }
    if (now.sites.get(site).slots.get(slot).isEmpty()) {
      return NOT_POSSIBLE;
    }
    return changeSlot(site, slot, Optional.empty());
  }

  private int changeSlot(int site, int slot, Optional<Slot> content) {
    Site changed = now.sites.get(site).withSlot(slot, content);
    return become(withSites(now, with(now.sites, site, changed)), changed.version);
  }

  /** What an act makes of a state, and what it answers; the state is null if that is an error. */
  record Done(State next, int answer) {
  }

  private int keep(Done done) {
    return done.answer < 0 ? done.answer : become(done.next, done.answer);
  }

  private static Done registering(State s, int site) {
    if (!isIn(s.sites, site)) {
      return new Done(null, BAD_INDEX);
    }
    Site changed = s.sites.get(site).withEnd(s.hour + s.sites.get(site).life);
    return new Done(withSites(s, with(s.sites, site, changed)), changed.end);
  }

  private static Done unregistering(State s, int site) {
    if (!isIn(s.sites, site)) {
      return new Done(null, BAD_INDEX);
    }
    int rest = s.sites.get(site).end - s.hour;
    if (rest <= 0) {
      return new Done(null, NOT_POSSIBLE);
    }
    return new Done(withSites(s, with(s.sites, site, s.sites.get(site).withEnd(s.hour))), rest);
  }

  private static Done passing(State s, int hours) {
    if (!in(hours, 1, 99)) {
      return new Done(null, BAD_VALUE);
    }
    if (s.hour > 9999 - hours) {
      return new Done(null, NOT_POSSIBLE);
    }
    return new Done(withHour(s, s.hour + hours), s.hour + hours);
  }

  int register(int site) {
    return keep(registering(now, site));
  }

  int unregister(int site) {
    return keep(unregistering(now, site));
  }

  int pass(int hours) {
    return keep(passing(now, hours));
  }

  int setMapLife(int life) {
    if (!in(life, 1, 100)) {
      return BAD_VALUE;
    }
    return become(new State(now.servers, now.sites, now.routers, now.hour, life), now.life);
  }

  int forget(int router) {
    if (!isIn(now.routers, router)) {
      return BAD_INDEX;
    }
    Router r = now.routers.get(router);
    Router emptied = r.withMaps(List.of());
    return become(withRouters(now, with(now.routers, router, emptied)), r.maps.size());
  }

  int send(int router, int name, int flow) {
    return keep(sending(now, router, name, flow));
  }

  private static List<Integer> way(State s, int name) {
    List<Integer> way = new ArrayList<>(List.of(0));
    while (true) {
      int last = way.get(way.size() - 1);
      List<Integer> next = IntStream.range(0, s.servers.size()).boxed()
          .filter(n -> s.servers.get(n).parent == last && s.servers.get(n).block.has(name)).toList();
      if (next.isEmpty()) {
        return way;
      }
      way.add(next.get(0));
    }
  }

  private static int home(State s, int name) {
    List<Integer> way = way(s, name);
    return way.get(way.size() - 1);
  }

  private static int homeOfSite(State s, Site site) {
    return IntStream.range(0, s.servers.size()).boxed()
        .filter(n -> s.servers.get(n).block.hasAllOf(site.block))
        .min(Comparator.comparingInt(n -> s.servers.get(n).block.size)).orElseThrow();
  }

  private static Optional<Integer> answer(State s, int name) {
    int home = home(s, name);
    return IntStream.range(0, s.sites.size()).boxed()
        .filter(n -> s.sites.get(n).block.has(name))
        .filter(n -> s.sites.get(n).up(s.hour))
        .filter(n -> homeOfSite(s, s.sites.get(n)) == home)
        .min(Comparator.comparingInt(n -> s.sites.get(n).block.size));
  }

  /** Each place stands here as often as its weight says, in the order of the slots. */
  private static List<Integer> turns(Site site) {
    List<Slot> full = site.slots.stream().flatMap(Optional::stream).toList();
    int lowest = full.stream().mapToInt(Slot::priority).min().orElse(0);
    List<Integer> turns = new ArrayList<>();
    for (Slot slot : full) {
      for (int n = 0; slot.priority == lowest && n < slot.weight; n++) {
        turns.add(slot.place);
      }
    }
    return turns;
  }

  private static int choice(CacheMap map, int flow) {
    List<Integer> turns = turns(map.copy);
    return turns.get(flow % turns.size());
  }

  private static Done sending(State s, int router, int name, int flow) {
    if (!isIn(s.routers, router)) {
      return new Done(null, BAD_INDEX);
    }
    if (!in(name, 0, 255) || !in(flow, 0, 99)) {
      return new Done(null, BAD_VALUE);
    }
    Letter letter = new Letter(s, s.routers.get(router), name, flow);
    int reached = letter.go();
    return new Done(withRouters(s, with(s.routers, router, letter.routerThen())), reached);
  }

  /** One letter on its way through the four steps. */
  private static final class Letter {
    final State s;
    final int name;
    final int flow;
    final Router before;
    final List<CacheMap> cache;
    int asks = 0;
    int proxied = 0;
    int old = 0;

    Letter(State s, Router router, int name, int flow) {
      this.s = s;
      this.name = name;
      this.flow = flow;
      this.before = router;
      this.cache = new ArrayList<>(router.maps);
    }

    Router routerThen() {
      return new Router(List.copyOf(cache), before.asks + asks,
          before.hops + asks * way(s, name).size(), before.letters + 1,
          before.proxied + proxied, before.old + old);
    }

    int go() {
      cache.removeIf(m -> s.hour >= m.end);
      Optional<CacheMap> taken = cache.stream().filter(m -> m.copy.block.has(name))
          .min(Comparator.comparingInt(m -> m.copy.block.size));
      if (taken.isEmpty() || taken.get().marked) {
        Optional<CacheMap> made = ask();
        if (made.isEmpty()) {
          taken.ifPresent(cache::remove);
          return proxy();
        }
        taken = made;
      }
      CacheMap map = taken.get();
      cache.remove(map);
      cache.add(0, map);
      Site site = s.sites.get(map.site);
      int place = choice(map, flow);
      if (site.up(s.hour) && site.slots.stream().flatMap(Optional::stream)
          .anyMatch(slot -> slot.place == place)) {
        if (site.version != map.copy.version) {
          cache.set(0, new CacheMap(map.site, map.copy, map.end, true));
        }
        return place;
      }
      old++;
      cache.remove(0);
      return ask().map(m -> choice(m, flow)).orElseGet(this::proxy);
    }

    Optional<CacheMap> ask() {
      asks++;
      Optional<Integer> answer = answer(s, name);
      if (answer.isEmpty()) {
        return Optional.empty();
      }
      int site = answer.get();
      cache.removeIf(m -> m.site == site);
      while (cache.size() >= 5) {
        cache.remove(cache.size() - 1);
      }
      cache.add(0, new CacheMap(site, s.sites.get(site), s.hour + s.life, false));
      return Optional.of(cache.get(0));
    }

    int proxy() {
      proxied++;
      return 32 + name / 32;
    }
  }

  int append(int b) {
    if (!in(b, 32, 126)) {
      return BAD_VALUE;
    }
    if (text.length() == 80) {
      return FULL;
    }
    text += (char) b;
    return text.length();
  }

  int clearText() {
    int length = text.length();
    text = "";
    return length;
  }

  private static final Pattern NUMBER = Pattern.compile("0|[1-9][0-9]{0,2}");

  /** Reads a text by templates: a sign stands for itself, a name for a number of its range. */
  private static final class Reading {
    final String text;
    final List<Act> acts = new ArrayList<>();
    int at = 0;
    boolean faulty = false;

    Reading(String text) {
      this.text = text;
      while (at < text.length() && !faulty) {
        readAct(text.charAt(at));
      }
    }

    void readAct(char kind) {
      switch (kind) {
        case 's' -> acts.add(new Act(kind, read("sRnNfF;")));
        case 'r', 'u' -> acts.add(new Act(kind, read(kind + "S;")));
        case 't' -> acts.add(new Act(kind, read("tH;")));
        default -> faulty = true;
      }
    }

    int[] read(String template) {
      List<Integer> numbers = new ArrayList<>();
      for (char sign : template.toCharArray()) {
        if (!faulty) {
          switch (sign) {
            case 'R' -> numbers.add(number(0, 3));
            case 'N' -> numbers.add(number(0, 255));
            case 'F' -> numbers.add(number(0, 99));
            case 'S' -> numbers.add(number(0, 7));
            case 'H' -> numbers.add(number(1, 99));
            default -> {
              faulty = at >= text.length() || text.charAt(at) != sign;
              at += faulty ? 0 : 1;
            }
          }
        }
      }
      return numbers.stream().mapToInt(n -> n).toArray();
    }

    int number(int lowest, int highest) {
      Matcher digits = NUMBER.matcher(text).region(at, text.length());
      faulty = !digits.lookingAt() || !in(Integer.parseInt(digits.group()), lowest, highest);
      if (faulty) {
        return 0;
      }
      at = digits.end();
      return Integer.parseInt(digits.group());
    }
  }

  int faultPosition() {
    Reading reading = new Reading(text);
    return reading.faulty ? reading.at : NONE;
  }

  int run() {
    Reading reading = new Reading(text);
    if (reading.faulty) {
      return NOT_POSSIBLE;
    }
    State s = now;
    int count = 0;
    for (Act act : reading.acts) {
      int[] n = act.numbers;
      Done done = switch (act.kind) {
        case 's' -> sending(s, n[0], n[1], n[2]);
        case 'r' -> registering(s, n[0]);
        case 'u' -> unregistering(s, n[0]);
        default -> passing(s, n[0]);
      };
      if (done.answer < 0) {
        break;
      }
      s = done.next;
      count++;
    }
    return become(s, count);
  }

  int undo() {
    if (history.isEmpty()) {
      return NOT_POSSIBLE;
    }
    now = history.remove(history.size() - 1);
    return history.size();
  }

  int save(int slot) {
    if (!in(slot, 0, 1)) {
      return BAD_INDEX;
    }
    saved[slot] = now;
    return now.hour;
  }

  int restore(int slot) {
    if (!in(slot, 0, 1)) {
      return BAD_INDEX;
    }
    return saved[slot] == null ? NOT_POSSIBLE : become(saved[slot], saved[slot].hour);
  }

  private static int property(int property, int... values) {
    return in(property, 0, values.length - 1) ? values[property] : BAD_VALUE;
  }

  int server(int server, int property) {
    if (!isIn(now.servers, server)) {
      return BAD_INDEX;
    }
    Server s = now.servers.get(server);
    return property(property, s.parent, s.block.first, s.block.size,
        (int) now.servers.stream().filter(c -> c.parent == server).count(),
        way(now, s.block.first).indexOf(server) + 1,
        (int) now.sites.stream().filter(t -> homeOfSite(now, t) == server).count());
  }

  int site(int site, int property) {
    if (!isIn(now.sites, site)) {
      return BAD_INDEX;
    }
    Site s = now.sites.get(site);
    return property(property, s.block.first, s.block.size, s.life, s.version, s.end,
        homeOfSite(now, s), s.up(now.hour) ? 1 : 0,
        (int) now.routers.stream().flatMap(r -> r.maps.stream()).filter(m -> m.site == site).count());
  }

  int slot(int site, int slot, int property) {
    if (!isIn(now.sites, site) || !in(slot, 0, 2)) {
      return BAD_INDEX;
    }
    if (!in(property, 0, 2)) {
      return BAD_VALUE;
    }
    return now.sites.get(site).slots.get(slot)
        .map(s -> property(property, s.place, s.priority, s.weight)).orElse(NONE);
  }

  int router(int router, int property) {
    if (!isIn(now.routers, router)) {
      return BAD_INDEX;
    }
    Router r = now.routers.get(router);
    return property(property, r.maps.size(), r.asks, r.hops, r.letters, r.proxied, r.old);
  }

  int map(int router, int place, int property) {
    if (!isIn(now.routers, router) || !isIn(now.routers.get(router).maps, place)) {
      return BAD_INDEX;
    }
    CacheMap m = now.routers.get(router).maps.get(place);
    return property(property, m.site, m.copy.version, m.end, m.marked ? 1 : 0,
        now.hour < m.end ? 1 : 0);
  }

  int answer(int name) {
    return in(name, 0, 255) ? answer(now, name).orElse(NONE) : BAD_VALUE;
  }

  int way(int name, int which) {
    if (!in(name, 0, 255)) {
      return BAD_VALUE;
    }
    return property(which, home(now, name), way(now, name).size());
  }

  int endingNext(int place) {
    if (place < 0) {
      return BAD_VALUE;
    }
    List<Integer> order = IntStream.range(0, now.sites.size()).boxed()
        .filter(n -> now.hour < now.sites.get(n).end)
        .sorted(Comparator.comparingInt((Integer n) -> now.sites.get(n).end).thenComparing(n -> n))
        .toList();
    return isIn(order, place) ? order.get(place) : NONE;
  }

  int total(int property) {
    List<Router> routers = now.routers;
    return property(property, now.hour, now.servers.size(), now.sites.size(), routers.size(),
        (int) now.sites.stream().filter(s -> s.up(now.hour)).count(),
        routers.stream().mapToInt(r -> r.maps.size()).sum(),
        routers.stream().mapToInt(Router::asks).sum(),
        routers.stream().mapToInt(Router::letters).sum(),
        routers.stream().mapToInt(Router::proxied).sum(),
        routers.stream().mapToInt(Router::old).sum(),
        now.life, history.size(), text.length(),
        property == 13 ? (int) IntStream.range(0, 256).filter(n -> answer(n) >= 0).count() : 0);
  }

  int wouldReach(int router, int name, int flow, int hours) {
    if (!isIn(now.routers, router)) {
      return BAD_INDEX;
    }
    if (!in(hours, 0, 99)) {
      return BAD_VALUE;
    }
    return sending(withHour(now, now.hour + hours), router, name, flow).answer;
  }

  int wouldAsk(int router, int name, int flow) {
    Done done = sending(now, router, name, flow);
    if (done.answer < 0) {
      return done.answer;
    }
    return done.next.routers.get(router).asks - now.routers.get(router).asks;
  }

  int share(int site, int place) {
    if (!isIn(now.sites, site)) {
      return BAD_INDEX;
    }
    if (!in(place, 0, 31)) {
      return BAD_VALUE;
    }
    List<Integer> turns = turns(now.sites.get(site));
    return (int) IntStream.range(0, 100)
        .filter(flow -> !turns.isEmpty() && turns.get(flow % turns.size()) == place).count();
  }
}
