/**
 * Names that are parted from places. The promises are those of ../shared/DOC.md; this file keeps to
 * the part of Java that ../shared/LANGUAGE.md leaves.
 *
 * <p>Every row that a call may need is made in the constructor and used again, so that no call
 * makes an object.
 */
public final class NameMaps {
  public static final int BAD_INDEX = -1;
  public static final int BAD_VALUE = -2;
  public static final int NOT_POSSIBLE = -3;
  public static final int FULL = -4;
  public static final int NONE = -5;

  private static final int NAMES = 256;
  private static final int FLOWS = 100;
  private static final int PLACES = 32;
  private static final int PRIORITIES = 10;
  private static final int MOST_WEIGHT = 9;
  private static final int MOST_SITE_LIFE = 48;
  private static final int MOST_MAP_LIFE = 100;
  private static final int MOST_HOURS = 99;
  private static final int LAST_HOUR = 9999;

  private static final int MOST_SERVERS = 8;
  private static final int MOST_SITES = 8;
  private static final int MOST_ROUTERS = 4;
  private static final int MOST_MAPS = 5;
  private static final int SLOTS = 3;
  private static final int MOST_BYTES = 80;
  private static final int MOST_STATES = 5;
  private static final int SAVES = 2;

  /** Stands where a number is wanted and no row is meant. */
  private static final int NOWHERE = -1;

  private final World present;
  private final World rehearsal;
  private final History history;
  private final World[] saves;
  private final boolean[] isSaved;
  private final ActText text;

  public NameMaps() {
    present = new World();
    rehearsal = new World();
    history = new History();
    saves = new World[SAVES];
    for (int s = 0; s < SAVES; s++) {
      saves[s] = new World();
    }
    isSaved = new boolean[SAVES];
    text = new ActText();
  }

  // ---- servers, sites, routers

  public int addServer(int parent, int first, int size) {
    history.draft(present);
    return recorded(present.newServer(parent, first, size));
  }

  public int addSite(int first, int size, int life) {
    history.draft(present);
    return recorded(present.newSite(first, size, life));
  }

  public int addRouter() {
    history.draft(present);
    return recorded(present.newRouter());
  }

  public int setSlot(int site, int slot, int place, int priority, int weight) {
    history.draft(present);
    return recorded(present.fillSlot(site, slot, place, priority, weight));
  }

  public int emptySlot(int site, int slot) {
    history.draft(present);
    return recorded(present.vacateSlot(site, slot));
  }

  public int register(int site) {
    history.draft(present);
    return recorded(present.startRegistration(site));
  }

  public int unregister(int site) {
    history.draft(present);
    return recorded(present.endRegistration(site));
  }

  public int setMapLife(int life) {
    history.draft(present);
    return recorded(present.changeMapLife(life));
  }

  // ---- letters and hours

  public int send(int router, int name, int flow) {
    history.draft(present);
    return recorded(present.sendLetter(router, name, flow));
  }

  public int pass(int hours) {
    history.draft(present);
    return recorded(present.letPass(hours));
  }

  public int forget(int router) {
    history.draft(present);
    return recorded(present.emptyCache(router));
  }

  // ---- the text

  public int append(int b) {
    return text.add(b);
  }

  public int clearText() {
    int before = text.length;
    text.length = 0;
    return before;
  }

  public int faultPosition() {
    int fault = text.findFault();
    return fault == NOWHERE ? NONE : fault;
  }

  public int run() {
    if (text.findFault() != NOWHERE) {
      return NOT_POSSIBLE;
    }
    history.draft(present);
    text.rewind();
    int done = 0;
    while (done < MOST_BYTES && text.readAct() && carryOutAct() >= 0) {
      done++;
    }
    return recorded(done);
  }

  // ---- history and slots

  public int undo() {
    if (history.count == 0) {
      return NOT_POSSIBLE;
    }
    history.takeLatest(present);
    return history.count;
  }

  public int save(int slot) {
    if (!isSave(slot)) {
      return BAD_INDEX;
    }
    saves[slot].copyFrom(present);
    isSaved[slot] = true;
    return present.hour;
  }

  public int restore(int slot) {
    if (!isSave(slot)) {
      return BAD_INDEX;
    }
    if (!isSaved[slot]) {
      return NOT_POSSIBLE;
    }
    history.draft(present);
    present.copyFrom(saves[slot]);
    return recorded(present.hour);
  }

  // ---- looking

  public int server(int server, int property) {
    return present.isServer(server) ? present.serverProperty(server, property) : BAD_INDEX;
  }

  public int site(int site, int property) {
    return present.isSite(site) ? present.siteProperty(site, property) : BAD_INDEX;
  }

  public int slot(int site, int slot, int property) {
    if (!present.isSite(site) || !isSlot(slot)) {
      return BAD_INDEX;
    }
    return present.sites[site].slots.propertyOf(slot, property);
  }

  public int router(int router, int property) {
    return present.isRouter(router) ? present.routers[router].property(property) : BAD_INDEX;
  }

  public int map(int router, int place, int property) {
    if (!present.isRouter(router) || !present.routers[router].isPlace(place)) {
      return BAD_INDEX;
    }
    return present.routers[router].maps[place].property(property, present.hour);
  }

  public int answer(int name) {
    if (!isName(name)) {
      return BAD_VALUE;
    }
    int site = present.answerFor(name);
    return site == NOWHERE ? NONE : site;
  }

  public int way(int name, int which) {
    if (!isName(name) || which < 0 || which > 1) {
      return BAD_VALUE;
    }
    int home = present.homeOf(name, 1);
    return which == 0 ? home : present.hopsTo(home);
  }

  public int endingNext(int place) {
    if (place < 0) {
      return BAD_VALUE;
    }
    int site = present.siteEndingAt(place);
    return site == NOWHERE ? NONE : site;
  }

  public int total(int property) {
    switch (property) {
      case 11:
        return history.count;
      case 12:
        return text.length;
      default:
        return present.totalOf(property);
    }
  }

  // ---- what could be, which changes nothing

  public int wouldReach(int router, int name, int flow, int hours) {
    if (!present.isRouter(router)) {
      return BAD_INDEX;
    }
    if (hours < 0 || hours > MOST_HOURS) {
      return BAD_VALUE;
    }
    rehearsal.copyFrom(present);
    rehearsal.hour += hours;
    return rehearsal.sendLetter(router, name, flow);
  }

  public int wouldAsk(int router, int name, int flow) {
    if (!present.isRouter(router)) {
      return BAD_INDEX;
    }
    rehearsal.copyFrom(present);
    int reached = rehearsal.sendLetter(router, name, flow);
    return reached < 0 ? reached : rehearsal.routers[router].asks - present.routers[router].asks;
  }

  public int share(int site, int place) {
    if (!present.isSite(site)) {
      return BAD_INDEX;
    }
    return isPlaceOfSlot(place) ? present.sites[site].slots.flowsTo(place) : BAD_VALUE;
  }

  // ---- inside

  /** The state ahead of a call is drafted before it is known whether the call reports an error. */
  private int recorded(int result) {
    if (result >= 0) {
      history.keepDraft();
    }
    return result;
  }

  /** Carries out the act that was read last. */
  private int carryOutAct() {
    switch (text.kind) {
      case 's':
        return present.sendLetter(text.number, text.name, text.flow);
      case 'r':
        return present.startRegistration(text.number);
      case 'u':
        return present.endRegistration(text.number);
      default:
        return present.letPass(text.number);
    }
  }

  private static boolean isSave(int slot) {
    return slot >= 0 && slot < SAVES;
  }

  private static boolean isSlot(int slot) {
    return slot >= 0 && slot < SLOTS;
  }

  private static boolean isName(int name) {
    return name >= 0 && name < NAMES;
  }

  private static boolean isFlow(int flow) {
    return flow >= 0 && flow < FLOWS;
  }

  private static boolean isPlaceOfSlot(int place) {
    return place >= 0 && place < PLACES;
  }

  private static boolean isBlock(int first, int size) {
    if (size < 1 || size > NAMES || Integer.bitCount(size) != 1) {
      return false;
    }
    return isName(first) && first % size == 0;
  }

  /** A block of names; its numbers were tested by isBlock before they came here. */
  private static final class Block {
    int first;
    int size;

    void become(int newFirst, int newSize) {
      first = newFirst;
      size = newSize;
    }

    void copyFrom(Block other) {
      first = other.first;
      size = other.size;
    }

    boolean isAt(int otherFirst, int otherSize) {
      return first == otherFirst && size == otherSize;
    }

    boolean has(int name) {
      return holds(name, 1);
    }

    boolean holds(int otherFirst, int otherSize) {
      return first <= otherFirst && otherFirst + otherSize <= first + size;
    }

    boolean meets(int otherFirst, int otherSize) {
      return first < otherFirst + otherSize && otherFirst < first + size;
    }
  }

  /** The slots of a site, or the copy of them in a map. */
  private static final class Slots {
    private static final int PLACE = 0;
    private static final int PRIORITY = 1;
    private static final int WEIGHT = 2;
    private static final int CELLS = 3;

    /** A slot with weight 0 is empty, as no slot that is set has this weight. */
    private final int[] cells = new int[SLOTS * CELLS];

    void copyFrom(Slots other) {
      for (int c = 0; c < SLOTS * CELLS; c++) {
        cells[c] = other.cells[c];
      }
    }

    void fill(int slot, int place, int priority, int weight) {
      if (!isSlot(slot)) {
        return;
      }
      cells[slot * CELLS + PLACE] = place;
      cells[slot * CELLS + PRIORITY] = priority;
      cells[slot * CELLS + WEIGHT] = weight;
    }

    int propertyOf(int slot, int property) {
      if (property < 0 || property >= CELLS) {
        return BAD_VALUE;
      }
      return isEmpty(slot) ? NONE : cells[slot * CELLS + property];
    }

    boolean isEmpty(int slot) {
      return slot < 0 || slot >= SLOTS || cells[slot * CELLS + WEIGHT] == 0;
    }

    boolean areEmpty() {
      int sum = 0;
      for (int s = 0; s < SLOTS; s++) {
        sum += cells[s * CELLS + WEIGHT];
      }
      return sum == 0;
    }

    boolean have(int place) {
      for (int s = 0; s < SLOTS; s++) {
        if (!isEmpty(s) && cells[s * CELLS + PLACE] == place) {
          return true;
        }
      }
      return false;
    }

    private int lowestPriority() {
      int lowest = PRIORITIES;
      for (int s = 0; s < SLOTS; s++) {
        if (!isEmpty(s)) {
          lowest = Math.min(lowest, cells[s * CELLS + PRIORITY]);
        }
      }
      return lowest;
    }

    private int weightThatCounts(int slot, int lowest) {
      if (isEmpty(slot) || cells[slot * CELLS + PRIORITY] != lowest) {
        return 0;
      }
      return cells[slot * CELLS + WEIGHT];
    }

    /** The place for a flow; NOWHERE if all slots are empty. */
    int placeFor(int flow) {
      int lowest = lowestPriority();
      int sumOfAll = 0;
      for (int s = 0; s < SLOTS; s++) {
        sumOfAll += weightThatCounts(s, lowest);
      }
      if (sumOfAll <= 0) {
        return NOWHERE;
      }
      int mark = flow % sumOfAll;
      int sum = 0;
      for (int s = 0; s < SLOTS; s++) {
        sum += weightThatCounts(s, lowest);
        if (sum > mark) {
          return cells[s * CELLS + PLACE];
        }
      }
      return NOWHERE;
    }

    int flowsTo(int place) {
      int count = 0;
      for (int flow = 0; flow < FLOWS; flow++) {
        if (placeFor(flow) == place) {
          count++;
        }
      }
      return count;
    }
  }

  private static final class Server {
    final Block block = new Block();
    int parent = NONE;

    void copyFrom(Server other) {
      block.copyFrom(other.block);
      parent = other.parent;
    }
  }

  private static final class Site {
    final Block block = new Block();
    final Slots slots = new Slots();
    int life;
    int version;
    int end;

    void start(int first, int size, int newLife) {
      block.become(first, size);
      life = newLife;
      version = 1;
      end = 0;
      for (int s = 0; s < SLOTS; s++) {
        slots.fill(s, 0, 0, 0);
      }
    }

    void copyFrom(Site other) {
      block.copyFrom(other.block);
      slots.copyFrom(other.slots);
      life = other.life;
      version = other.version;
      end = other.end;
    }

    boolean isRegistered(int hour) {
      return hour < end;
    }

    boolean isUp(int hour) {
      return isRegistered(hour) && !slots.areEmpty();
    }
  }

  /** A map in a cache. */
  private static final class CacheMap {
    final Block block = new Block();
    final Slots slots = new Slots();
    int site;
    int version;
    int end;
    boolean isMarked;

    void become(int number, Site source, int newEnd) {
      block.copyFrom(source.block);
      slots.copyFrom(source.slots);
      site = number;
      version = source.version;
      end = newEnd;
      isMarked = false;
    }

    void copyFrom(CacheMap other) {
      block.copyFrom(other.block);
      slots.copyFrom(other.slots);
      site = other.site;
      version = other.version;
      end = other.end;
      isMarked = other.isMarked;
    }

    boolean isHolding(int hour) {
      return hour < end;
    }

    int property(int property, int hour) {
      switch (property) {
        case 0:
          return site;
        case 1:
          return version;
        case 2:
          return end;
        case 3:
          return isMarked ? 1 : 0;
        case 4:
          return isHolding(hour) ? 1 : 0;
        default:
          return BAD_VALUE;
      }
    }
  }

  private static final class Router {
    /** The first mapCount are the cache, latest used first; the others wait to be used again. */
    final CacheMap[] maps = new CacheMap[MOST_MAPS];
    int mapCount;
    int asks;
    int hops;
    int letters;
    int proxied;
    int oldMaps;

    Router() {
      for (int m = 0; m < MOST_MAPS; m++) {
        maps[m] = new CacheMap();
      }
    }

    void start() {
      mapCount = 0;
      asks = 0;
      hops = 0;
      letters = 0;
      proxied = 0;
      oldMaps = 0;
    }

    void copyFrom(Router other) {
      mapCount = other.mapCount;
      for (int m = 0; m < mapCount; m++) {
        maps[m].copyFrom(other.maps[m]);
      }
      asks = other.asks;
      hops = other.hops;
      letters = other.letters;
      proxied = other.proxied;
      oldMaps = other.oldMaps;
    }

    boolean isPlace(int place) {
      return place >= 0 && place < mapCount && place < MOST_MAPS;
    }

    int property(int property) {
      switch (property) {
        case 0:
          return mapCount;
        case 1:
          return asks;
        case 2:
          return hops;
        case 3:
          return letters;
        case 4:
          return proxied;
        case 5:
          return oldMaps;
        default:
          return BAD_VALUE;
      }
    }

    void moveToFront(int place) {
      if (!isPlace(place)) {
        return;
      }
      CacheMap moved = maps[place];
      for (int m = place; m > 0; m--) {
        maps[m] = maps[m - 1];
      }
      maps[0] = moved;
    }

    /** Drops the map at a place; does nothing for NOWHERE. */
    void drop(int place) {
      if (!isPlace(place)) {
        return;
      }
      CacheMap dropped = maps[place];
      for (int m = place; m < mapCount - 1; m++) {
        maps[m] = maps[m + 1];
      }
      mapCount--;
      maps[mapCount] = dropped;
    }

    void dropEnded(int hour) {
      for (int m = MOST_MAPS - 1; m >= 0; m--) {
        if (isPlace(m) && !maps[m].isHolding(hour)) {
          drop(m);
        }
      }
    }

    int placeOfSite(int site) {
      for (int m = 0; m < mapCount; m++) {
        if (maps[m].site == site) {
          return m;
        }
      }
      return NOWHERE;
    }

    int placeOfSmallest(int name) {
      int best = NOWHERE;
      int bestSize = NAMES + 1;
      for (int m = 0; m < mapCount; m++) {
        Block block = maps[m].block;
        if (block.has(name) && block.size < bestSize) {
          best = m;
          bestSize = block.size;
        }
      }
      return best;
    }

    void addMap(int number, Site source, int end) {
      drop(placeOfSite(number));
      if (mapCount >= MOST_MAPS) {
        drop(MOST_MAPS - 1);
      }
      maps[mapCount].become(number, source, end);
      mapCount++;
      moveToFront(mapCount - 1);
    }
  }

  /** A state: all but the text, the history and the slots of save(). */
  private static final class World {
    final Server[] servers = new Server[MOST_SERVERS];
    final Site[] sites = new Site[MOST_SITES];
    final Router[] routers = new Router[MOST_ROUTERS];
    int serverCount = 1;
    int siteCount;
    int routerCount;
    int hour;
    int mapLife = 10;

    World() {
      for (int s = 0; s < MOST_SERVERS; s++) {
        servers[s] = new Server();
      }
      servers[0].block.become(0, NAMES);
      for (int s = 0; s < MOST_SITES; s++) {
        sites[s] = new Site();
      }
      for (int r = 0; r < MOST_ROUTERS; r++) {
        routers[r] = new Router();
      }
    }

    void copyFrom(World other) {
      serverCount = other.serverCount;
      for (int s = 0; s < serverCount; s++) {
        servers[s].copyFrom(other.servers[s]);
      }
      siteCount = other.siteCount;
      for (int s = 0; s < siteCount; s++) {
        sites[s].copyFrom(other.sites[s]);
      }
      routerCount = other.routerCount;
      for (int r = 0; r < routerCount; r++) {
        routers[r].copyFrom(other.routers[r]);
      }
      hour = other.hour;
      mapLife = other.mapLife;
    }

    boolean isServer(int number) {
      return number >= 0 && number < serverCount && number < MOST_SERVERS;
    }

    boolean isSite(int number) {
      return number >= 0 && number < siteCount && number < MOST_SITES;
    }

    boolean isRouter(int number) {
      return number >= 0 && number < routerCount && number < MOST_ROUTERS;
    }

    // ---- what is done; each answers as the call of its kind does

    int newServer(int parent, int first, int size) {
      if (!isServer(parent)) {
        return BAD_INDEX;
      }
      Block outer = servers[parent].block;
      if (!isBlock(first, size) || !outer.holds(first, size) || size >= outer.size) {
        return BAD_VALUE;
      }
      for (int s = 0; s < serverCount; s++) {
        if (servers[s].parent == parent && servers[s].block.meets(first, size)) {
          return NOT_POSSIBLE;
        }
      }
      if (serverCount >= MOST_SERVERS) {
        return FULL;
      }
      servers[serverCount].block.become(first, size);
      servers[serverCount].parent = parent;
      serverCount++;
      return serverCount - 1;
    }

    int newSite(int first, int size, int life) {
      if (!isBlock(first, size) || life < 1 || life > MOST_SITE_LIFE) {
        return BAD_VALUE;
      }
      for (int s = 0; s < siteCount; s++) {
        if (sites[s].block.isAt(first, size)) {
          return NOT_POSSIBLE;
        }
      }
      if (siteCount >= MOST_SITES) {
        return FULL;
      }
      sites[siteCount].start(first, size, life);
      siteCount++;
      return siteCount - 1;
    }

    int newRouter() {
      if (routerCount >= MOST_ROUTERS) {
        return FULL;
      }
      routers[routerCount].start();
      routerCount++;
      return routerCount - 1;
    }

    int fillSlot(int site, int slot, int place, int priority, int weight) {
      if (!isSite(site) || !isSlot(slot)) {
        return BAD_INDEX;
      }
      if (!isPlaceOfSlot(place) || priority < 0 || priority >= PRIORITIES) {
        return BAD_VALUE;
      }
      if (weight < 1 || weight > MOST_WEIGHT) {
        return BAD_VALUE;
      }
      sites[site].slots.fill(slot, place, priority, weight);
      sites[site].version++;
      return sites[site].version;
    }

    int vacateSlot(int site, int slot) {
      if (!isSite(site) || !isSlot(slot)) {
        return BAD_INDEX;
      }
      if (sites[site].slots.isEmpty(slot)) {
        return NOT_POSSIBLE;
      }
      sites[site].slots.fill(slot, 0, 0, 0);
      sites[site].version++;
      return sites[site].version;
    }

    int startRegistration(int site) {
      if (!isSite(site)) {
        return BAD_INDEX;
      }
      sites[site].end = hour + sites[site].life;
      return sites[site].end;
    }

    int endRegistration(int site) {
      if (!isSite(site)) {
        return BAD_INDEX;
      }
      if (!sites[site].isRegistered(hour)) {
        return NOT_POSSIBLE;
      }
      int rest = sites[site].end - hour;
      sites[site].end = hour;
      return rest;
    }

    int changeMapLife(int life) {
      if (life < 1 || life > MOST_MAP_LIFE) {
        return BAD_VALUE;
      }
      int before = mapLife;
      mapLife = life;
      return before;
    }

    int letPass(int hours) {
      if (hours < 1 || hours > MOST_HOURS) {
        return BAD_VALUE;
      }
      if (hour + hours > LAST_HOUR) {
        return NOT_POSSIBLE;
      }
      hour += hours;
      return hour;
    }

    int emptyCache(int router) {
      if (!isRouter(router)) {
        return BAD_INDEX;
      }
      int before = routers[router].mapCount;
      routers[router].mapCount = 0;
      return before;
    }

    // ---- letters

    int sendLetter(int number, int name, int flow) {
      if (!isRouter(number)) {
        return BAD_INDEX;
      }
      if (!isName(name) || !isFlow(flow)) {
        return BAD_VALUE;
      }
      Router router = routers[number];
      router.letters++;
      router.dropEnded(hour);
      int taken = router.placeOfSmallest(name);
      if (router.isPlace(taken) && !router.maps[taken].isMarked) {
        router.moveToFront(taken);
      } else if (!ask(router, name)) {
        router.drop(taken);
        return goByProxy(router, name);
      }
      int place = placeByMap(router.maps[0], flow);
      if (place != NOWHERE) {
        return place;
      }
      router.oldMaps++;
      router.drop(0);
      if (!ask(router, name)) {
        return goByProxy(router, name);
      }
      return router.maps[0].slots.placeFor(flow);
    }

    /** The place at which a letter arrives by a map; NOWHERE if the map is old. */
    private int placeByMap(CacheMap map, int flow) {
      int place = map.slots.placeFor(flow);
      if (!isSite(map.site)) {
        return NOWHERE;
      }
      Site site = sites[map.site];
      if (!site.isUp(hour) || !site.slots.have(place)) {
        return NOWHERE;
      }
      if (map.version != site.version) {
        map.isMarked = true;
      }
      return place;
    }

    /** Tells whether there was an answer; if so, its map is the first one of the cache then. */
    private boolean ask(Router router, int name) {
      router.asks++;
      router.hops += hopsTo(homeOf(name, 1));
      int site = answerFor(name);
      if (!isSite(site)) {
        return false;
      }
      router.addMap(site, sites[site], hour + mapLife);
      return true;
    }

    private int goByProxy(Router router, int name) {
      router.proxied++;
      return PLACES + name / 32;
    }

    // ---- looking

    /** The server with the smallest block that has all names of a block. */
    int homeOf(int first, int size) {
      int home = 0;
      for (int s = 1; s < serverCount; s++) {
        Block block = servers[s].block;
        if (block.holds(first, size) && block.size < servers[home].block.size) {
          home = s;
        }
      }
      return home;
    }

    int homeOfSite(int site) {
      return isSite(site) ? homeOf(sites[site].block.first, sites[site].block.size) : NOWHERE;
    }

    /** The number of servers on the way from server 0 to a server, counted from its end. */
    int hopsTo(int server) {
      int hops = 0;
      int at = server;
      while (isServer(at) && hops < MOST_SERVERS) {
        hops++;
        at = servers[at].parent;
      }
      return hops;
    }

    int answerFor(int name) {
      int home = homeOf(name, 1);
      int best = NOWHERE;
      int bestSize = NAMES + 1;
      for (int s = 0; s < siteCount; s++) {
        Block block = sites[s].block;
        if (block.has(name) && block.size < bestSize
            && sites[s].isUp(hour) && homeOf(block.first, block.size) == home) {
          best = s;
          bestSize = block.size;
        }
      }
      return best;
    }

    /** The site with just so many registered sites ahead of it; NOWHERE if there are fewer. */
    int siteEndingAt(int place) {
      for (int s = 0; s < siteCount; s++) {
        if (sites[s].isRegistered(hour) && sitesEndingAheadOf(s) == place) {
          return s;
        }
      }
      return NOWHERE;
    }

    private int sitesEndingAheadOf(int site) {
      int end = isSite(site) ? sites[site].end : 0;
      int count = 0;
      for (int s = 0; s < siteCount; s++) {
        boolean isEarlier = sites[s].end < end || sites[s].end == end && s < site;
        if (isEarlier && sites[s].isRegistered(hour)) {
          count++;
        }
      }
      return count;
    }

    int serverProperty(int server, int property) {
      if (!isServer(server)) {
        return BAD_INDEX;
      }
      switch (property) {
        case 0:
          return servers[server].parent;
        case 1:
          return servers[server].block.first;
        case 2:
          return servers[server].block.size;
        case 3:
          return childrenOf(server);
        case 4:
          return hopsTo(server);
        case 5:
          return sitesAtHome(server);
        default:
          return BAD_VALUE;
      }
    }

    private int childrenOf(int server) {
      int count = 0;
      for (int s = 0; s < serverCount; s++) {
        if (servers[s].parent == server) {
          count++;
        }
      }
      return count;
    }

    private int sitesAtHome(int server) {
      int count = 0;
      for (int s = 0; s < siteCount; s++) {
        if (homeOfSite(s) == server) {
          count++;
        }
      }
      return count;
    }

    int siteProperty(int site, int property) {
      if (!isSite(site)) {
        return BAD_INDEX;
      }
      switch (property) {
        case 0:
          return sites[site].block.first;
        case 1:
          return sites[site].block.size;
        case 2:
          return sites[site].life;
        case 3:
          return sites[site].version;
        case 4:
          return sites[site].end;
        case 5:
          return homeOfSite(site);
        case 6:
          return sites[site].isUp(hour) ? 1 : 0;
        case 7:
          return mapsOf(site);
        default:
          return BAD_VALUE;
      }
    }

    private int mapsOf(int site) {
      int count = 0;
      for (int r = 0; r < routerCount; r++) {
        if (routers[r].placeOfSite(site) != NOWHERE) {
          count++;
        }
      }
      return count;
    }

    /** The totals that a state can tell; the history and the text are not part of it. */
    int totalOf(int property) {
      switch (property) {
        case 0:
          return hour;
        case 1:
          return serverCount;
        case 2:
          return siteCount;
        case 3:
          return routerCount;
        case 4:
          return sitesUp();
        case 5:
          return sumOverRouters(0);
        case 6:
          return sumOverRouters(1);
        case 7:
          return sumOverRouters(3);
        case 8:
          return sumOverRouters(4);
        case 9:
          return sumOverRouters(5);
        case 10:
          return mapLife;
        case 13:
          return namesWithAnswer();
        default:
          return BAD_VALUE;
      }
    }

    private int sitesUp() {
      int count = 0;
      for (int s = 0; s < siteCount; s++) {
        if (sites[s].isUp(hour)) {
          count++;
        }
      }
      return count;
    }

    private int sumOverRouters(int property) {
      int sum = 0;
      for (int r = 0; r < routerCount; r++) {
        sum += routers[r].property(property);
      }
      return sum;
    }

    private int namesWithAnswer() {
      int count = 0;
      for (int name = 0; name < NAMES; name++) {
        if (answerFor(name) != NOWHERE) {
          count++;
        }
      }
      return count;
    }
  }

  /** The states that undo() can bring back, in a ring, with one row more for the draft. */
  private static final class History {
    private static final int ROWS = MOST_STATES + 1;

    private final World[] states = new World[ROWS];
    private int oldest;
    int count;

    History() {
      for (int s = 0; s < ROWS; s++) {
        states[s] = new World();
      }
    }

    private int row(int index) {
      return Math.floorMod(oldest + index, ROWS);
    }

    void draft(World world) {
      states[row(count)].copyFrom(world);
    }

    void keepDraft() {
      if (count < MOST_STATES) {
        count++;
      } else {
        oldest = row(1);
      }
    }

    void takeLatest(World world) {
      if (count > 0) {
        count--;
        world.copyFrom(states[row(count)]);
      }
    }
  }

  /** The text, and the reading of its acts one after the other. */
  private static final class ActText {
    private static final int LOWEST_BYTE = 32;
    private static final int HIGHEST_BYTE = 126;
    private static final int MOST_DIGITS = 3;

    private final byte[] bytes = new byte[MOST_BYTES];
    int length;
    private int position;
    /** Once a fault is found, nothing is read any more, and so the first one stays. */
    private int fault = NOWHERE;
    /** The act that was read last: number is its router, site or hours. */
    int kind;
    int number;
    int name;
    int flow;

    int add(int b) {
      if (b < LOWEST_BYTE || b > HIGHEST_BYTE) {
        return BAD_VALUE;
      }
      if (length >= MOST_BYTES) {
        return FULL;
      }
      bytes[length] = (byte) b;
      length++;
      return length;
    }

    void rewind() {
      position = 0;
      fault = NOWHERE;
    }

    int findFault() {
      rewind();
      int acts = 0;
      while (acts < MOST_BYTES && readAct()) {
        acts++;
      }
      return fault;
    }

    /** Tells whether there was one more act, and no fault in it. */
    boolean readAct() {
      if (fault != NOWHERE || position >= length) {
        return false;
      }
      kind = byteHere();
      switch (kind) {
        case 's':
          readSending();
          break;
        case 'r':
        case 'u':
          position++;
          number = readNumber(0, MOST_SITES - 1);
          break;
        case 't':
          position++;
          number = readNumber(1, MOST_HOURS);
          break;
        default:
          fault = position;
          break;
      }
      readSign(';');
      return fault == NOWHERE;
    }

    private void readSending() {
      readSign('s');
      number = readNumber(0, MOST_ROUTERS - 1);
      readSign('n');
      name = readNumber(0, NAMES - 1);
      readSign('f');
      flow = readNumber(0, FLOWS - 1);
    }

    private void readSign(int sign) {
      if (fault != NOWHERE) {
        return;
      }
      if (byteHere() == sign) {
        position++;
      } else {
        fault = position;
      }
    }

    private int readNumber(int lowest, int highest) {
      if (fault != NOWHERE) {
        return 0;
      }
      int start = position;
      int value = 0;
      int digits = 0;
      boolean isMore = true;
      while (isMore && digits < MOST_DIGITS && isDigit(byteHere())) {
        value = value * 10 + byteHere() - '0';
        digits++;
        position++;
        isMore = value > 0;
      }
      if (digits == 0 || value < lowest || value > highest) {
        fault = start;
      }
      return value;
    }

    /** The byte at which the reading stands; NOWHERE, which is no byte, at the end. */
    private int byteHere() {
      boolean isInside = position < length && position < MOST_BYTES;
      return isInside ? bytes[position] : NOWHERE;
    }

    private static boolean isDigit(int b) {
      return b >= '0' && b <= '9';
    }
  }
}
