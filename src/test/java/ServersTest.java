/** Promises 2 (addServer), 20 (server) and 26 (way). */
public final class ServersTest {
  private static final Check check = new Check();

  public static void main(String[] args) {
    adding();
    blocks();
    orderOfErrors();
    properties();
    ways();
    check.end();
  }

  private static void adding() {
    Watched x = new Watched();
    check.due("no parent 1", x.addServer(1, 0, 128), -1);
    check.due("no parent -1", x.addServer(-1, 0, 128), -1);
    check.due("no parent most", x.addServer(Integer.MAX_VALUE, 0, 128), -1);
    check.due("no parent least", x.addServer(Integer.MIN_VALUE, 0, 128), -1);
    check.due("as large as the parent", x.addServer(0, 0, 256), -2);
    check.due("first child", x.addServer(0, 64, 64), 1);
    check.due("same block", x.addServer(0, 64, 64), -3);
    check.due("block around it", x.addServer(0, 0, 128), -3);
    check.due("block in it", x.addServer(0, 96, 1), -3);
    check.due("last name of it", x.addServer(0, 127, 1), -3);
    check.due("ahead of it", x.addServer(0, 63, 1), 2);
    check.due("behind it", x.addServer(0, 128, 1), 3);
    check.due("child as large as its parent", x.addServer(1, 64, 64), -2);
    check.due("child outside its parent", x.addServer(1, 0, 32), -2);
    check.due("child around its parent", x.addServer(1, 0, 128), -2);
    check.due("grandchild", x.addServer(1, 64, 32), 4);
    check.due("second grandchild", x.addServer(1, 96, 32), 5);
    check.due("name in common with a grandchild", x.addServer(1, 96, 16), -3);
    check.due("below the grandchild", x.addServer(5, 96, 16), 6);
    check.due("seventh child", x.addServer(5, 112, 16), 7);
    check.due("a ninth server", x.addServer(0, 0, 1), -4);
    check.due("servers", x.total(1), 8);
  }

  private static void blocks() {
    Watched x = new Watched();
    int[] badSizes = {0, -1, 3, 5, 6, 7, 9, 12, 24, 48, 96, 192, 255, 257, 512, 1024,
        Integer.MIN_VALUE, Integer.MAX_VALUE, 1 << 30};
    for (int size : badSizes) {
      check.due("addServer(0, 0, " + size + ")", x.addServer(0, 0, size), -2);
    }
    for (int size = 2; size <= 128; size *= 2) {
      check.due("first 1, size " + size, x.addServer(0, 1, size), -2);
      check.due("first half, size " + size, x.addServer(0, size / 2, size), -2);
      check.due("first -size", x.addServer(0, -size, size), -2);
      check.due("first 256", x.addServer(0, 256, size), -2);
    }
    check.due("first least", x.addServer(0, Integer.MIN_VALUE, 1), -2);
    check.due("first most", x.addServer(0, Integer.MAX_VALUE, 1), -2);
    check.due("first -1", x.addServer(0, -1, 1), -2);
    check.due("nothing was added", x.total(1), 1);
    check.due("nothing was recorded", x.total(11), 0);
    int number = 1;
    for (int size = 1; size <= 64; size *= 2) {
      check.due("block of " + size, x.addServer(0, size, size), number);
      check.due("its size", x.server(number, 2), size);
      number++;
    }
  }

  private static void orderOfErrors() {
    Watched x = new Watched();
    check.due("index ahead of value", x.addServer(3, 3, 3), -1);
    x.addServer(0, 0, 128);
    check.due("value ahead of not possible", x.addServer(0, 0, 256), -2);
    for (int n = 0; n < 6; n++) {
      x.addServer(0, 128 + n, 1);
    }
    check.due("eight", x.total(1), 8);
    check.due("index ahead of full", x.addServer(8, 134, 1), -1);
    check.due("value ahead of full", x.addServer(0, 134, 3), -2);
    check.due("not possible ahead of full", x.addServer(0, 0, 1), -3);
    check.due("full", x.addServer(0, 134, 1), -4);
    String before = Looks.ofAll(x);
    x.addServer(0, 135, 1);
    check.dueText("after an error", Looks.ofAll(x), before);
  }

  private static void properties() {
    Watched x = new Watched();
    x.addServer(0, 128, 128);
    x.addServer(1, 192, 64);
    x.addServer(1, 128, 32);
    x.addServer(2, 192, 1);
    x.addSite(0, 256, 1);
    x.addSite(128, 128, 1);
    x.addSite(128, 64, 1);
    x.addSite(192, 64, 1);
    x.addSite(192, 2, 1);
    x.addSite(192, 1, 1);
    int[][] due = {
        {-5, 0, 256, 1, 1, 1},
        {0, 128, 128, 2, 2, 2},
        {1, 192, 64, 1, 3, 2},
        {1, 128, 32, 0, 3, 0},
        {2, 192, 1, 0, 4, 1},
    };
    for (int server = 0; server < due.length; server++) {
      for (int property = 0; property <= 5; property++) {
        check.due("server(" + server + ", " + property + ")",
            x.server(server, property), due[server][property]);
      }
      check.due("server property -1", x.server(server, -1), -2);
      check.due("server property 6", x.server(server, 6), -2);
    }
    check.due("server 5", x.server(5, 0), -1);
    check.due("server -1", x.server(-1, 0), -1);
    check.due("index ahead of value", x.server(5, 6), -1);
    check.due("server most", x.server(Integer.MAX_VALUE, 0), -1);
    check.due("property least", x.server(0, Integer.MIN_VALUE), -2);
  }

  private static void ways() {
    Watched x = new Watched();
    x.addServer(0, 0, 64);
    x.addServer(1, 32, 32);
    x.addServer(2, 63, 1);
    x.addServer(0, 128, 1);
    int[][] due = {
        {0, 1, 2}, {31, 1, 2}, {32, 2, 3}, {62, 2, 3}, {63, 3, 4}, {64, 0, 1},
        {127, 0, 1}, {128, 4, 2}, {129, 0, 1}, {255, 0, 1},
    };
    for (int[] row : due) {
      check.due("way(" + row[0] + ", 0)", x.way(row[0], 0), row[1]);
      check.due("way(" + row[0] + ", 1)", x.way(row[0], 1), row[2]);
    }
    check.due("way(-1, 0)", x.way(-1, 0), -2);
    check.due("way(256, 0)", x.way(256, 0), -2);
    check.due("way(0, -1)", x.way(0, -1), -2);
    check.due("way(0, 2)", x.way(0, 2), -2);
    check.due("way(least, most)", x.way(Integer.MIN_VALUE, Integer.MAX_VALUE), -2);
    x.addServer(3, 63, 1);
    check.due("way is as before after an error", x.way(63, 1), 4);
    x.addServer(0, 64, 64);
    check.due("a new server is on the way", x.way(64, 0), 5);
  }
}
