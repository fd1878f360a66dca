/** Promises 10, 18 and 19: the plans of the ways, the best one, and prices. */
public final class WaysTest {
  private static final Due due = new Due();

  public static void main(String[] args) {
    refused();
    knownWays();
    lines();
    planStays();
    sends();
    turnOfTwo();
    allAreRight();
    allDoAsAsked();
    prices();
    best();
    due.end();
  }

  private static SumsToAll full(int n) {
    SumsToAll x = new SumsToAll();
    x.hosts(n);
    x.net(1, 10, 1);
    return x;
  }

  private static void refused() {
    SumsToAll x = full(4);
    x.live(3, false);
    int[][] none = {{-1, 0, 0}, {4, 0, 0}, {0, -1, 0}, {0, 5, 0}, {0, 0, -1}, {0, 0, 4}, {0, 0, 3},
        {0, 2, 3}, {0, 3, 4}, {3, 4, 3}, {2, 4, 3}, {Integer.MAX_VALUE, 0, 0}, {0, Integer.MIN_VALUE, 0},
        {0, 31, 0}, {0, 32, 0}, {0, 33, 0}};
    for (int[] r : none) {
      due.is("build", x.build(r[0], r[1], r[2]), -1);
      due.is("price", x.price(r[0], r[1], r[2]), -1);
    }
    due.is("best(-1, 0)", x.best(-1, 0), -1);
    due.is("best(5, 0)", x.best(5, 0), -1);
    due.is("best(0, 3)", x.best(0, 3), -1);
    due.is("best(4, 4)", x.best(4, 4), -1);
    due.is("best(2, -1)", x.best(2, -1), -1);
  }

  /** By way and ask whether there is one, for m a power of two, and for another m. */
  private static void knownWays() {
    String[] powers = {"yyyyn", "yyynn", "nnyyn", "yynyy"};
    for (int m = 1; m <= 16; m++) {
      SumsToAll x = full(16);
      for (int host = 15; host >= m; host--) {
        x.live(host, false);
      }
      boolean power = m == 1 || m == 2 || m == 4 || m == 8 || m == 16;
      for (int way = 0; way < 4; way++) {
        for (int ask = 0; ask < 5; ask++) {
          boolean is = powers[way].charAt(ask) == 'y' && (way != 2 || power);
          String call = "(" + way + ", " + ask + ", 0) with m " + m;
          if (is) {
            due.is("build" + call, x.build(way, ask, 0) >= 0, true);
            due.is("price" + call, x.price(way, ask, 0) >= 0, true);
          } else {
            due.is("build" + call, x.build(way, ask, 0), -2);
            due.is("price" + call, x.price(way, ask, 0), -2);
          }
          if (is && m == 1) {
            due.is("no steps" + call, x.build(way, ask, 0), 0);
            due.is("no sends" + call, x.count(3), 0);
            due.is("no ticks" + call, x.price(way, ask, 0), 0);
          }
        }
      }
    }
  }

  private static void lines() {
    SumsToAll x = full(4);
    x.hosts(4);
    due.is("no lines", x.build(0, 0, 0), -3);
    due.is("no lines, but no way first", x.build(1, 3, 0), -2);
    x.net(2, 10, 1);
    due.is("a row is enough for a ring's spread from its end", x.build(0, 0, 0), 3);
    due.is("not from 1 on", x.build(0, 0, 1), -3);
    due.is("nor for a ring to 0", x.build(0, 1, 0), -3);
    due.is("nor for the price", x.price(0, 1, 0), -3);
    due.is("but for one to 3", x.build(0, 1, 3), 3);
    due.is("a ring of all needs the last line", x.build(0, 3, 0), -3);
    x.line(0, 3, 1, 1);
    due.is("and has it", x.build(0, 3, 0), 3);
    due.is("a tree needs 0 with 2", x.build(1, 0, 0), -3);
    x.hosts(4);
    x.line(0, 1, 1, 1);
    x.line(0, 2, 1, 1);
    x.line(1, 3, 1, 1);
    due.is("a tree's own lines", x.build(1, 2, 0), 4);
    due.is("are not another root's", x.build(1, 2, 1), -3);
    x.line(2, 3, 1, 1);
    due.is("halving by bits", x.build(2, 2, 3), 2);
    due.is("halving by bits", x.build(2, 3, 3), 2);
    due.is("direct from 0 needs 3", x.build(3, 0, 0), -3);
    x.line(0, 3, 1, 1);
    due.is("direct from 0", x.build(3, 0, 0), 3);
    due.is("direct to 0", x.build(3, 1, 0), 3);
    due.is("a turn needs all", x.build(3, 4, 0), -3);
    x.line(1, 2, 1, 1);
    due.is("a turn", x.build(3, 4, 0), 4);
    x.hosts(5);
    x.net(2, 1, 1);
    x.live(2, false);
    due.is("the lost one's lines are no help", x.build(0, 0, 0), -3);
    x.line(1, 3, 1, 1);
    due.is("by ranks", x.build(0, 0, 0), 3);
  }

  private static void planStays() {
    SumsToAll x = full(4);
    x.line(1, 2, -1, 1);
    x.send(7, 0, 3, 2, 4, true);
    x.build(3, 4, 0);
    x.build(1, 3, 0);
    x.build(9, 0, 0);
    x.price(0, 0, 2);
    x.price(1, 0, 0);
    x.best(2, 0);
    due.is("one send", x.count(3), 1);
    int[] want = {7, 0, 3, 2, 4, 1};
    for (int what = 0; what < 6; what++) {
      due.is("sent(0, " + what + ")", x.sent(0, what), want[what]);
    }
    due.is("in place of any", x.build(1, 0, 0), 2);
    due.is("its sends alone", x.count(3), 12);
    x.price(3, 0, 0);
    x.best(0, 0);
    due.is("these stay too", x.count(4), 2);
    due.is("these stay too", x.count(5), 3);
  }

  /** One letter of each step, told by hand: {step, from, to, block, block there, added}. */
  private static void sends() {
    SumsToAll x = full(4);
    x.live(1, false);
    check(x, 0, 0, 2, new int[][] {{0, 2, 3, 0, 0, 0}, {0, 2, 3, 1, 1, 0}, {0, 2, 3, 2, 2, 0},
        {1, 3, 0, 0, 0, 0}, {1, 3, 0, 1, 1, 0}, {1, 3, 0, 2, 2, 0}});
    check(x, 0, 1, 2, new int[][] {{0, 3, 0, 0, 0, 1}, {0, 3, 0, 1, 1, 1}, {0, 3, 0, 2, 2, 1},
        {1, 0, 2, 0, 0, 1}, {1, 0, 2, 1, 1, 1}, {1, 0, 2, 2, 2, 1}});
    check(x, 0, 2, 2, new int[][] {{0, 0, 2, 0, 0, 1}, {0, 2, 3, 1, 1, 1}, {0, 3, 0, 2, 2, 1},
        {1, 0, 2, 2, 2, 1}, {1, 2, 3, 0, 0, 1}, {1, 3, 0, 1, 1, 1},
        {2, 0, 2, 1, 1, 0}, {2, 2, 3, 2, 2, 0}, {2, 3, 0, 0, 0, 0},
        {3, 0, 2, 0, 0, 0}, {3, 2, 3, 1, 1, 0}, {3, 3, 0, 2, 2, 0}});
    check(x, 0, 3, 0, new int[][] {{0, 0, 2, 0, 0, 0}, {0, 2, 3, 1, 1, 0}, {0, 3, 0, 2, 2, 0},
        {1, 0, 2, 2, 2, 0}, {1, 2, 3, 0, 0, 0}, {1, 3, 0, 1, 1, 0}});
    check(x, 1, 1, 3, new int[][] {{0, 2, 3, 0, 0, 1}, {0, 2, 3, 1, 1, 1}, {0, 2, 3, 2, 2, 1},
        {1, 0, 3, 0, 0, 1}, {1, 0, 3, 1, 1, 1}, {1, 0, 3, 2, 2, 1}});
    check(x, 1, 0, 3, new int[][] {{0, 3, 0, 0, 0, 0}, {0, 3, 0, 1, 1, 0}, {0, 3, 0, 2, 2, 0},
        {1, 3, 2, 0, 0, 0}, {1, 3, 2, 1, 1, 0}, {1, 3, 2, 2, 2, 0}});
    check(x, 3, 3, 0, new int[][] {{0, 0, 2, 0, 0, 0}, {0, 2, 3, 1, 1, 0}, {0, 3, 0, 2, 2, 0},
        {1, 0, 3, 0, 0, 0}, {1, 2, 0, 1, 1, 0}, {1, 3, 2, 2, 2, 0}});
    check(x, 3, 4, 0, new int[][] {{0, 2, 3, 2, 1, 0}, {0, 3, 2, 1, 2, 0},
        {1, 0, 2, 1, 0, 0}, {1, 2, 0, 0, 1, 0}, {2, 0, 3, 2, 0, 0}, {2, 3, 0, 0, 2, 0}});
    x.live(1, true);
    check(x, 2, 3, 0, new int[][] {{0, 0, 1, 0, 0, 0}, {0, 1, 0, 1, 1, 0}, {0, 2, 3, 2, 2, 0},
        {0, 3, 2, 3, 3, 0}, {1, 0, 2, 0, 0, 0}, {1, 0, 2, 1, 1, 0}, {1, 1, 3, 0, 0, 0},
        {1, 1, 3, 1, 1, 0}, {1, 2, 0, 2, 2, 0}, {1, 2, 0, 3, 3, 0}, {1, 3, 1, 2, 2, 0},
        {1, 3, 1, 3, 3, 0}});
    x.hosts(2);
    x.net(1, 1, 1);
    check(x, 2, 2, 0, new int[][] {{0, 0, 1, 0, 0, 1}, {0, 0, 1, 1, 1, 1}, {0, 1, 0, 0, 0, 1},
        {0, 1, 0, 1, 1, 1}});
    check(x, 3, 0, 1, new int[][] {{0, 1, 0, 0, 0, 0}, {0, 1, 0, 1, 1, 0}});
    check(x, 3, 1, 1, new int[][] {{0, 0, 1, 0, 0, 1}, {0, 0, 1, 1, 1, 1}});
    check(x, 1, 2, 1, new int[][] {{0, 0, 1, 0, 0, 1}, {0, 0, 1, 1, 1, 1}, {1, 1, 0, 0, 0, 0},
        {1, 1, 0, 1, 1, 0}});
  }

  private static void check(SumsToAll x, int way, int ask, int root, int[][] want) {
    String call = "build(" + way + ", " + ask + ", " + root + ")";
    due.is(call, x.build(way, ask, root), want[want.length - 1][0] + 1);
    due.is(call + " count(3)", x.count(3), want.length);
    for (int i = 0; i < want.length; i++) {
      for (int what = 0; what < 6; what++) {
        due.is(call + " sent(" + i + ", " + what + ")", x.sent(i, what), want[i][what]);
      }
    }
  }

  /** In the first step of a turn of two both would send to themselves: the other one moves up. */
  private static void turnOfTwo() {
    SumsToAll x = full(2);
    check(x, 3, 4, 0, new int[][] {{0, 0, 1, 1, 0, 0}, {0, 1, 0, 0, 1, 0}});
    due.is("ticks", x.ticks(), 11);
  }

  private static void allAreRight() {
    for (int m = 1; m <= 16; m++) {
      SumsToAll x = full(16);
      for (int i = 0; i < 16 - m; i++) {
        x.live((5 + 3 * i) % 16, false);
      }
      for (int way = 0; way < 4; way++) {
        for (int ask = 0; ask < 5; ask++) {
          for (int root = 0; root < 16; root += 3) {
            if (x.build(way, ask, root) >= 0) {
              due.is("right by way " + way + ", m " + m, x.right(ask, root), 1);
            }
          }
        }
      }
    }
  }

  private static void allDoAsAsked() {
    for (int m = 2; m <= 16; m++) {
      for (int way = 0; way < 4; way++) {
        for (int ask = 0; ask < 5; ask++) {
          doesAsAsked(m, way, ask, (way + ask) % m);
        }
      }
    }
  }

  private static void doesAsAsked(int m, int way, int ask, int root) {
    SumsToAll x = full(m);
    for (int host = 0; host < m; host++) {
      for (int block = 0; block < 16; block++) {
        x.set(host, block, start(host, block));
      }
    }
    if (x.build(way, ask, root) < 0) {
      return;
    }
    due.is("run()", x.run(), x.count(4));
    for (int host = 0; host < m; host++) {
      for (int block = 0; block < 16; block++) {
        if (ask != 1 || host == root || block >= m) {
          String what = "way " + way + ", ask " + ask + ", m " + m + ": at(" + host + ", " + block + ")";
          due.is(what, x.at(host, block), asked(m, ask, root, host, block));
        }
      }
    }
  }

  private static int start(int host, int block) {
    return 1000003 * host * host + 7919 * block + 13;
  }

  private static int asked(int m, int ask, int root, int host, int block) {
    if (block >= m) {
      return start(host, block);
    }
    int sum = 0;
    for (int h = 0; h < m; h++) {
      sum += start(h, block);
    }
    int[] by = {start(root, block), sum, sum, start(block, block), start(block, host)};
    return by[ask];
  }

  private static void prices() {
    SumsToAll x = full(8);
    due.is("ring spread", x.price(0, 0, 3), 7 * 18);
    due.is("tree spread", x.price(1, 0, 3), 3 * 18);
    due.is("direct spread", x.price(3, 0, 3), 7 * 18);
    due.is("ring to all", x.price(0, 2, 3), 14 * 11);
    due.is("tree to all", x.price(1, 2, 3), 6 * 18);
    due.is("halving to all", x.price(2, 2, 3), 3 * 18);
    due.is("ring gather", x.price(0, 3, 3), 7 * 11);
    due.is("halving gather", x.price(2, 3, 3), 11 + 12 + 14);
    due.is("direct gather", x.price(3, 3, 3), 7 * 11);
    due.is("direct turn", x.price(3, 4, 3), 8 * 11);
    x.line(3, 4, 500, 1);
    due.is("a slow line", x.price(0, 0, 3), 508 + 6 * 18);
    due.is("a slow line is waited for", x.price(0, 3, 3), 7 * 501);
    due.is("and not by who does not use it", x.price(0, 0, 4), 7 * 18);
  }

  private static void best() {
    SumsToAll x = full(8);
    int[] want = {1, 1, 2, 2, 3};
    for (int ask = 0; ask < 5; ask++) {
      due.is("best(" + ask + ", 2)", x.best(ask, 2), want[ask]);
    }
    x.live(7, false);
    int[] seven = {1, 1, 1, 0, 3};
    for (int ask = 0; ask < 5; ask++) {
      due.is("of seven: best(" + ask + ", 2)", x.best(ask, 2), seven[ask]);
    }
    x.hosts(8);
    for (int ask = 0; ask < 5; ask++) {
      due.is("no lines: best(" + ask + ", 2)", x.best(ask, 2), -2);
    }
    x.net(0, 5, 5);
    due.is("a ring: best(0, 2)", x.best(0, 2), 0);
    due.is("a ring: best(4, 2)", x.best(4, 2), -2);
    x.net(1, 1000, 1000);
    x.net(0, 0, 1);
    due.is("a quick ring in slow lines", x.best(0, 2), 0);
    due.is("to all", x.best(2, 2), 0);
    x.hosts(2);
    x.net(1, 3, 3);
    int[] two = {0, 0, 2, 0, 3};
    for (int ask = 0; ask < 5; ask++) {
      due.is("of equal ones the least: best(" + ask + ", 1)", x.best(ask, 1), two[ask]);
    }
    x.live(0, false);
    int[] one = {0, 0, 0, 0, 3};
    for (int ask = 0; ask < 5; ask++) {
      due.is("of one: best(" + ask + ", 1)", x.best(ask, 1), one[ask]);
    }
  }
}
