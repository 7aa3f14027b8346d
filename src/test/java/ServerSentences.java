/** Names, blocks, hours and servers: their words in the terms, and promises 1, 2, 20 and 26. */
final class ServerSentences {
  private ServerSentences() {
  }

  static void tests(Sentences s) {
    s.section("What it is");
    calls(s);
    s.section("Terms");
    names(s);
    blocks(s);
    servers(s);
    ways(s);
    s.section("Promise 1");
    newObject(s);
    s.section("Promise 2");
    addServer(s);
    addServerErrors(s);
    s.section("Promise 20");
    server(s);
    serverErrors(s);
    s.section("Promise 26");
    way(s);
  }

  private static void calls(Sentences s) {
    s.test("An object is used for at most 512 calls after it has been made;", c -> {
      Watched x = new Watched();
      x.addRouter();
      for (int n = 2; n <= 510; n++) {
        c.due("send as call " + n, x.send(0, 255, 99), 39);
      }
      c.due("total(7) as call 511", x.total(7), 509);
      c.due("undo() as call 512", x.undo(), 4);
      Watched y = new Watched();
      for (int n = 1; n <= 512; n++) {
        c.due("pass(1) as call " + n, y.pass(1), n);
      }
    });
  }

  private static void names(Sentences s) {
    s.plain("There are rehearsals of letters, acts from texts, undo and slots. All numbers are whole.");
    s.test("Names are numbered from 0 to 255.", c -> {
      Watched x = Given.oneSite();
      for (int name : new int[] {0, 255}) {
        c.due("answer of " + name, x.answer(name), 0);
        c.due("way of " + name, x.way(name, 0), 0);
        c.due("wouldReach of " + name, x.wouldReach(0, name, 0, 0), 1);
        c.due("wouldAsk of " + name, x.wouldAsk(0, name, 0), 1);
        c.due("letter to " + name, x.send(0, name, 0), 1);
        x.forget(0);
      }
      for (int name : Given.outside(0, 255)) {
        c.due("answer of " + name, x.answer(name), -2);
        c.due("way of " + name, x.way(name, 0), -2);
        c.due("wouldReach of " + name, x.wouldReach(0, name, 0, 0), -2);
        c.due("wouldAsk of " + name, x.wouldAsk(0, name, 0), -2);
        c.due("letter to " + name, x.send(0, name, 0), -2);
      }
      c.due("names", x.total(13), 256);
    });
    s.test("Hours are numbered from 0 to 9999;", c -> {
      Watched x = new Watched();
      Given.untilHour(x, 9998);
      c.due("the last hour", x.pass(1), 9999);
      c.due("one more", x.pass(1), -3);
      c.due("the hour", x.total(0), 9999);
    });
    s.test("at first hour 0 is now.", c -> {
      Watched x = new Watched();
      c.due("the hour", x.total(0), 0);
      x.addSite(0, 1, 1);
      c.due("end of a registration", x.register(0), 1);
    });
  }

  private static boolean isSize(int size) {
    return size == 1 || size == 2 || size == 4 || size == 8 || size == 16 || size == 32
        || size == 64 || size == 128 || size == 256;
  }

  private static void blocks(Sentences s) {
    s.test("A block of names has a size, 1, 2, 4, 8, 16, 32, 64, 128 or 256, ", c -> {
      for (int size = -260; size <= 1030; size++) {
        int due = isSize(size) ? 0 : -2;
        c.due("site of " + size + " names", new Watched().addSite(0, size, 1), due);
      }
      for (int size : Given.outside(1, 256)) {
        c.due("site of " + size + " names", new Watched().addSite(0, size, 1), -2);
      }
    });
    s.test("and a first name that is divisible by the size;", c -> {
      for (int size = 1; size <= 256; size *= 2) {
        for (int first = -size; first <= 256 + size; first++) {
          boolean isBlock = first >= 0 && first + size <= 256 && first % size == 0;
          int site = new Watched().addSite(first, size, 1);
          c.due("site from " + first + " of " + size, site, isBlock ? 0 : -2);
        }
        for (int first : Given.outside(0, 255)) {
          c.due("site from " + first + " of " + size, new Watched().addSite(first, size, 1), -2);
        }
      }
    });
    s.test("it has this name and the following ones, as many as the size.", c -> {
      for (int size = 1; size <= 256; size *= 2) {
        int first = size % 256;
        Watched x = new Watched();
        Given.siteUp(x, first, size, 1);
        c.due("names of a block of " + size, x.total(13), size);
        c.due("its first name", x.answer(first), 0);
        c.due("its last name", x.answer(first + size - 1), 0);
        c.due("ahead of it", x.answer(first - 1), first == 0 ? -2 : -5);
        c.due("behind it", x.answer(first + size), first + size == 256 ? -2 : -5);
      }
    });
    s.test("Two blocks are apart, or one of them has all names of the other one.", c -> {
      for (int n = 0; n < 900; n++) {
        int[] one = blockOf16(n / 30);
        int[] other = blockOf16(n % 30);
        boolean areApart = one[0] + one[1] <= other[0] || other[0] + other[1] <= one[0];
        Watched x = new Watched();
        x.addServer(0, one[0], one[1]);
        c.due("a server from " + other[0] + " of " + other[1] + " beside one from " + one[0]
            + " of " + one[1], x.addServer(0, other[0], other[1]), areApart ? 2 : -3);
      }
    });
  }

  /** One of the 30 blocks of 1, 2, 4 and 8 names that lie in the names 0 to 15. */
  private static int[] blockOf16(int index) {
    int size = 1;
    int rest = index;
    while (rest >= 16 / size) {
      rest -= 16 / size;
      size *= 2;
    }
    return new int[] {rest * size, size};
  }

  private static void servers(Sentences s) {
    s.test("Servers. There are at most 8, numbered from 0.", c -> {
      Watched x = new Watched();
      c.due("server 0", x.server(0, 4), 1);
      for (int server = 1; server <= 7; server++) {
        c.due("one more", x.addServer(0, server, 1), server);
      }
      c.due("a ninth", x.addServer(0, 8, 1), -4);
      c.due("servers", x.total(1), 8);
      c.due("server 7", x.server(7, 1), 7);
      c.due("server 8", x.server(8, 1), -1);
    });
    s.test("Server 0 is there from the beginning, with the block of all names and without a parent.",
        c -> {
          Watched x = new Watched();
          c.due("servers", x.total(1), 1);
          c.due("its parent", x.server(0, 0), -5);
          c.due("its first name", x.server(0, 1), 0);
          c.due("its size", x.server(0, 2), 256);
          c.due("home of name 0", x.way(0, 0), 0);
          c.due("home of name 255", x.way(255, 0), 0);
        });
    s.test("Each other server has a parent, and a block that lies in the block of its parent and is "
        + "smaller;", c -> {
          Watched x = new Watched();
          c.due("the whole block of server 0", x.addServer(0, 0, 256), -2);
          c.due("half of it", x.addServer(0, 64, 64), 1);
          c.due("its parent", x.server(1, 0), 0);
          c.due("the block of the parent", x.addServer(1, 64, 64), -2);
          c.due("the block around it", x.addServer(1, 0, 128), -2);
          c.due("the name ahead of it", x.addServer(1, 63, 1), -2);
          c.due("the name behind it", x.addServer(1, 128, 1), -2);
          c.due("its first name", x.addServer(1, 64, 1), 2);
          c.due("its last name", x.addServer(1, 127, 1), 3);
          c.due("their parent", x.server(3, 0), 1);
          c.due("the block of a parent with one name", x.addServer(2, 64, 1), -2);
        });
    s.test("the blocks of two servers with the same parent have no name in common.", c -> {
      Watched x = new Watched();
      x.addServer(0, 64, 64);
      c.due("the same block", x.addServer(0, 64, 64), -3);
      c.due("its first name", x.addServer(0, 64, 1), -3);
      c.due("its last name", x.addServer(0, 127, 1), -3);
      c.due("a block around it", x.addServer(0, 0, 128), -3);
      c.due("the block ahead of it", x.addServer(0, 0, 64), 2);
      c.due("the block behind it", x.addServer(0, 128, 64), 3);
      c.due("its first half, with another parent", x.addServer(1, 64, 32), 4);
      c.due("the same block in that one", x.addServer(4, 64, 16), 5);
      c.due("the same block beside that one", x.addServer(1, 64, 16), -3);
    });
  }

  private static void ways(Sentences s) {
    s.test("The way of a name goes from server 0 on to the server with this parent whose block has "
        + "the name, and so on, as far as there is one.", c -> {
          Watched x = Given.chainOfServers();
          int[] firstNamesOutside = {256, 128, 64, 32, 16, 8, 4, 2};
          for (int server = 0; server <= 7; server++) {
            int last = firstNamesOutside[server] - 1;
            c.due("the way of its last name ends at server", x.way(last, 0), server);
            c.due("the way of " + last, x.way(last, 1), server + 1);
          }
          c.due("the way of name 0", x.way(0, 1), 8);
        });
    s.test("The last server of the way is the home of the name;", c -> {
      Watched x = new Watched();
      c.due("with server 0 alone", x.way(100, 0), 0);
      x.addServer(0, 64, 64);
      x.addServer(1, 96, 16);
      int[][] homes = {{63, 0}, {64, 1}, {95, 1}, {96, 2}, {111, 2}, {112, 1}, {127, 1}, {128, 0}};
      for (int[] row : homes) {
        c.due("home of " + row[0], x.way(row[0], 0), row[1]);
      }
    });
    s.test("the number of servers on the way is its hops.", c -> {
      Watched x = new Watched();
      c.due("with server 0 alone", x.way(100, 1), 1);
      x.addServer(0, 64, 64);
      x.addServer(1, 96, 16);
      x.addServer(1, 64, 16);
      int[][] hops = {{63, 1}, {64, 3}, {79, 3}, {80, 2}, {95, 2}, {96, 3}, {128, 1}};
      for (int[] row : hops) {
        c.due("hops of " + row[0], x.way(row[0], 1), row[1]);
      }
    });
  }

  private static void newObject(Sentences s) {
    s.test("NameMaps(): Creates a world with server 0 alone, without sites and routers, at hour 0;",
        c -> {
          Watched x = new Watched();
          int[] totals = {0, 1, 0, 0, 0, 0, 0, 0, 0, 0, 10};
          for (int property = 0; property < totals.length; property++) {
            c.due("total(" + property + ")", x.total(property), totals[property]);
          }
          int[] server = {-5, 0, 256, 0, 1, 0};
          for (int property = 0; property < server.length; property++) {
            c.due("server(0, " + property + ")", x.server(0, property), server[property]);
          }
          c.due("server 1", x.server(1, 0), -1);
          c.due("site 0", x.site(0, 0), -1);
          c.due("router 0", x.router(0, 0), -1);
          c.due("names with an answer", x.total(13), 0);
        });
    s.test("the text, the history and the slots of save() are empty.", c -> {
      Watched x = new Watched();
      c.due("length of the text", x.total(12), 0);
      c.due("the fault position", x.faultPosition(), -5);
      c.due("states in the history", x.total(11), 0);
      c.due("undo()", x.undo(), -3);
      c.due("restore(0)", x.restore(0), -3);
      c.due("restore(1)", x.restore(1), -3);
      c.due("clearText()", x.clearText(), 0);
      c.due("run()", x.run(), 0);
    });
  }

  private static void addServer(Sentences s) {
    s.test("int addServer(int parent, int first, int size): Adds a server.", c -> {
      Watched x = new Watched();
      x.addServer(0, 128, 64);
      c.due("servers", x.total(1), 2);
      c.due("home of its first name", x.way(128, 0), 1);
      c.due("home of its last name", x.way(191, 0), 1);
      c.due("home of the name ahead", x.way(127, 0), 0);
      c.due("home of the name behind", x.way(192, 0), 0);
    });
    s.recorded(Given::world, x -> x.addServer(0, 128, 128));
    s.test("parent: a server", c -> {
      Watched x = Given.chainOfServers();
      for (int server = 0; server <= 7; server++) {
        c.dueTrue("there is a server " + server, x.addServer(server, 0, 1) != -1);
      }
      Watched y = new Watched();
      y.addServer(0, 0, 2);
      c.due("server 1 as parent", y.addServer(1, 1, 1), 2);
      c.due("the parent then", y.server(2, 0), 1);
    });
    s.test("first: the first name of its block", c -> {
      Watched x = new Watched();
      for (int first : new int[] {0, 1, 254, 255}) {
        c.due("its first name", x.server(x.addServer(0, first, 1), 1), first);
      }
    });
    s.test("size: the size of its block", c -> {
      Watched x = new Watched();
      for (int size = 1; size <= 64; size *= 2) {
        c.due("its size", x.server(x.addServer(0, size, size), 2), size);
      }
      c.due("the largest", new Watched().addServer(0, 128, 128), 1);
    });
    s.test("Returns its number;", c -> {
      Watched x = new Watched();
      c.due("the first one that is added", x.addServer(0, 0, 128), 1);
      c.due("after an error", x.addServer(0, 0, 128) + x.addServer(1, 0, 64), -3 + 2);
      for (int server = 3; server <= 7; server++) {
        c.due("one more", x.addServer(0, 128 + server, 1), server);
      }
    });
  }

  private static void addServerErrors(Sentences s) {
    s.test("BAD_INDEX if there is no such server;", c -> {
      Watched x = new Watched();
      for (int parent : Given.outside(0, 0)) {
        c.due("parent " + parent, x.addServer(parent, 0, 1), -1);
      }
      Watched y = Given.chainOfServers();
      for (int parent : Given.outside(0, 7)) {
        c.due("parent " + parent + " of 8", y.addServer(parent, 0, 1), -1);
      }
    });
    s.test("BAD_VALUE if first and size are not those of a block, ", c -> {
      for (int size = -2; size <= 258; size++) {
        boolean isValid = isSize(size) && size < 256;
        int first = isSize(size) ? size % 256 : 0;
        c.due("first " + first + ", size " + size, new Watched().addServer(0, first, size),
            isValid ? 1 : -2);
        c.due("first 1, size " + size, new Watched().addServer(0, 1, size), size == 1 ? 1 : -2);
      }
      for (int first : Given.outside(0, 255)) {
        c.due("first " + first, new Watched().addServer(0, first, 1), -2);
        c.due("size " + first, new Watched().addServer(0, 0, first), -2);
      }
    });
    s.test("or this block does not lie in the block of the parent ", c -> {
      Watched x = new Watched();
      x.addServer(0, 96, 32);
      for (int size = 1; size <= 16; size *= 2) {
        c.due("just ahead of the parent, " + size, x.addServer(1, 96 - size, size), -2);
        c.due("just behind the parent, " + size, x.addServer(1, 128, size), -2);
      }
      c.due("around the parent", x.addServer(1, 64, 64), -2);
      c.due("the first names of the parent", x.addServer(1, 96, 16), 2);
      c.due("the last names of the parent", x.addServer(1, 112, 16), 3);
    });
    s.test("or is not smaller;", c -> {
      for (int size = 1; size <= 128; size *= 2) {
        Watched x = new Watched();
        x.addServer(0, 0, size);
        c.due("as large as the parent, " + size, x.addServer(1, 0, size), -2);
        c.due("half of it", x.addServer(1, 0, size / 2), size == 1 ? -2 : 2);
      }
      c.due("as large as server 0", new Watched().addServer(0, 0, 256), -2);
    });
    s.test("NOT_POSSIBLE if it has a name in common with the block of a server with the same parent;",
        c -> {
          Watched x = new Watched();
          x.addServer(0, 0, 16);
          x.addServer(0, 32, 32);
          int[][] meeting = {{0, 16}, {0, 128}, {0, 1}, {15, 1}, {32, 1}, {63, 1}, {32, 32}, {0, 64}};
          for (int[] block : meeting) {
            c.due("from " + block[0] + " of " + block[1], x.addServer(0, block[0], block[1]), -3);
          }
          c.due("between them", x.addServer(0, 16, 16), 3);
          c.due("behind them", x.addServer(0, 64, 64), 4);
          c.due("with another parent", x.addServer(2, 32, 16), 5);
        });
    s.test("FULL if there are 8.", c -> {
      Watched x = new Watched();
      for (int server = 1; server <= 6; server++) {
        x.addServer(0, server, 1);
      }
      c.due("there are 7", x.addServer(0, 8, 1), 7);
      c.due("there are 8", x.addServer(0, 9, 1), -4);
      c.due("there are 8, another parent", Given.chainOfServers().addServer(6, 2, 2), -4);
      x.undo();
      c.due("there are 7 again", x.addServer(0, 9, 1), 7);
    });
  }

  private static void server(Sentences s) {
    s.test("int server(int server, int property): Returns a property of a server. server: a server",
        c -> {
          Watched x = Given.chainOfServers();
          for (int server = 0; server <= 7; server++) {
            c.due("size of server " + server, x.server(server, 2), 256 >> server);
          }
        });
    s.test("property: 0 its parent (NONE for server 0), ", c -> {
      Watched x = Given.chainOfServers();
      c.due("server 0", x.server(0, 0), -5);
      for (int server = 1; server <= 7; server++) {
        c.due("server " + server, x.server(server, 0), server - 1);
      }
    });
    s.test("1 the first name of its block, 2 the size, ", c -> {
      Watched x = new Watched();
      x.addServer(0, 255, 1);
      x.addServer(0, 0, 128);
      int[][] blocks = {{0, 256}, {255, 1}, {0, 128}};
      for (int server = 0; server < blocks.length; server++) {
        c.due("first name of server " + server, x.server(server, 1), blocks[server][0]);
        c.due("size of server " + server, x.server(server, 2), blocks[server][1]);
      }
    });
    s.test("3 the number of servers of which it is the parent, ", c -> {
      Watched x = new Watched();
      c.due("none", x.server(0, 3), 0);
      x.addServer(0, 0, 128);
      x.addServer(1, 0, 64);
      c.due("those of its own servers do not count", x.server(0, 3), 1);
      for (int name = 128; name < 133; name++) {
        x.addServer(0, name, 1);
      }
      c.due("most", x.server(0, 3), 6);
      c.due("one", x.server(1, 3), 1);
      c.due("none of the last one", x.server(7, 3), 0);
    });
    s.test("4 the number of servers on the way from server 0 to it, itself included, ", c -> {
      Watched x = Given.chainOfServers();
      for (int server = 0; server <= 7; server++) {
        c.due("server " + server, x.server(server, 4), server + 1);
      }
    });
    s.test("5 the number of sites whose home it is", c -> {
      Watched x = new Watched();
      x.addServer(0, 64, 64);
      c.due("none", x.server(1, 5), 0);
      int[][] sites = {{0, 256}, {64, 64}, {64, 32}, {127, 1}, {0, 128}, {0, 64}, {128, 64}, {63, 1}};
      for (int[] site : sites) {
        x.addSite(site[0], site[1], 1);
      }
      c.due("server 0", x.server(0, 5), 5);
      c.due("server 1", x.server(1, 5), 3);
      x.addServer(1, 127, 1);
      c.due("server 1 then", x.server(1, 5), 2);
      c.due("server 2", x.server(2, 5), 1);
    });
  }

  private static void serverErrors(Sentences s) {
    s.plain("Returns the property;");
    s.test("BAD_INDEX if there is no such server;", c -> {
      Watched x = new Watched();
      x.addServer(0, 0, 1);
      for (int server : Given.outside(0, 1)) {
        c.due("server " + server, x.server(server, 0), -1);
      }
      for (int server : Given.outside(0, 7)) {
        c.due("server " + server + " of 8", Given.chainOfServers().server(server, 5), -1);
      }
    });
    s.test("BAD_VALUE if property is out of range.", c -> {
      Watched x = new Watched();
      x.addServer(0, 0, 1);
      for (int property : Given.outside(0, 5)) {
        c.due("property " + property + " of server 0", x.server(0, property), -2);
        c.due("property " + property + " of server 1", x.server(1, property), -2);
      }
    });
  }

  private static void way(Sentences s) {
    s.test("int way(int name, int which): Returns something of the way of a name. name: 0 to 255", c -> {
      Watched x = new Watched();
      x.addServer(0, 0, 1);
      x.addServer(0, 255, 1);
      c.due("home of 0", x.way(0, 0), 1);
      c.due("home of 1", x.way(1, 0), 0);
      c.due("home of 254", x.way(254, 0), 0);
      c.due("home of 255", x.way(255, 0), 2);
    });
    s.test("which: 0 its home, 1 its hops Returns it;", c -> {
      Watched x = Given.chainOfServers();
      c.due("home", x.way(3, 0), 6);
      c.due("hops", x.way(3, 1), 7);
      c.due("least home", x.way(128, 0), 0);
      c.due("fewest hops", x.way(128, 1), 1);
      c.due("most hops", x.way(1, 1), 8);
    });
    s.test("BAD_VALUE if an argument is out of range.", c -> {
      Watched x = new Watched();
      for (int name : Given.outside(0, 255)) {
        c.due("home of " + name, x.way(name, 0), -2);
        c.due("hops of " + name, x.way(name, 1), -2);
      }
      for (int which : Given.outside(0, 1)) {
        c.due("which " + which, x.way(0, which), -2);
        c.due("which " + which + " of 255", x.way(255, which), -2);
      }
    });
  }
}
