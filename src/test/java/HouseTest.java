/** Promises 1 to 9: a new object, hosts, lines, nets, blocks, the live, the late, counts. */
public final class HouseTest {
  private static final Due due = new Due();

  public static void main(String[] args) {
    newObject();
    hosts();
    hostsBeginAnew();
    line();
    lineAndPlan();
    net();
    netAndPlan();
    blocks();
    live();
    late();
    counts();
    due.end();
  }

  private static void newObject() {
    SumsToAll x = new SumsToAll();
    due.is("new count(0)", x.count(0), 2);
    due.is("new count(1)", x.count(1), 2);
    for (int what = 2; what <= 5; what++) {
      due.is("new count(" + what + ")", x.count(what), 0);
    }
    for (int block = 0; block < 16; block++) {
      due.is("new at(1, " + block + ")", x.at(1, block), 0);
    }
    due.is("new set(2, 0, 1)", x.set(2, 0, 1), false);
    due.is("new freely(0)", x.freely(0), 0);
    due.is("new freely(1)", x.freely(1), 0);
    due.is("new ticks()", x.ticks(), 0);
    due.is("new run()", x.run(), 0);
    due.is("new clear()", x.clear(), 0);
    due.is("new build(0, 0, 0)", x.build(0, 0, 0), -3);
    due.is("new send", x.send(0, 0, 1, 0, 0, false), -1);
    due.is("new fewest(0)", x.fewest(0), -1);
    due.is("NONE", SumsToAll.NONE, -1);
  }

  private static void hosts() {
    SumsToAll x = new SumsToAll();
    int[] refused = {1, 0, -1, 17, Integer.MAX_VALUE, Integer.MIN_VALUE};
    x.net(1, 1, 1);
    for (int n : refused) {
      due.is("hosts(" + n + ")", x.hosts(n), false);
      due.is("count(0) after a refused hosts", x.count(0), 2);
      due.is("count(2) after a refused hosts", x.count(2), 1);
    }
    for (int n = 2; n <= 16; n++) {
      due.is("hosts(" + n + ")", x.hosts(n), true);
      due.is("count(0)", x.count(0), n);
      due.is("count(1)", x.count(1), n);
      due.is("set(last)", x.set(n - 1, 15, n), true);
      due.is("set(behind the last)", x.set(n, 0, 1), false);
    }
  }

  private static void hostsBeginAnew() {
    SumsToAll x = new SumsToAll();
    x.hosts(16);
    x.net(1, 5, 5);
    for (int host = 0; host < 16; host++) {
      x.set(host, host, 7);
      x.late(host, 9);
    }
    x.live(3, false);
    x.build(0, 0, 0);
    due.is("hosts(1)", x.hosts(1), false);
    due.is("a refused hosts leaves the plan", x.count(3), 14 * 15);
    due.is("hosts(16)", x.hosts(16), true);
    due.is("all live", x.count(1), 16);
    due.is("no lines", x.count(2), 0);
    due.is("no sends", x.count(3), 0);
    for (int host = 0; host < 16; host++) {
      due.is("block 0 again", x.at(host, host), 0);
      due.is("none late", x.freely(host), 0);
    }
  }

  private static void line() {
    SumsToAll x = new SumsToAll();
    x.hosts(3);
    due.is("line(0, 1, 0, 1)", x.line(0, 1, 0, 1), true);
    due.is("line(2, 1, 1000, 1000)", x.line(2, 1, 1000, 1000), true);
    int[][] refused = {{0, 0, 1, 1}, {-1, 0, 1, 1}, {0, -1, 1, 1}, {0, 3, 1, 1}, {3, 0, 1, 1},
        {0, 2, -2, 1}, {0, 2, 1001, 1}, {0, 2, 1, 0}, {0, 2, 1, -1}, {0, 2, 1, 1001},
        {0, 0, -1, 1}, {0, 3, -1, 1}, {Integer.MIN_VALUE, Integer.MAX_VALUE, 1, 1},
        {0, 2, Integer.MAX_VALUE, 1}, {0, 2, Integer.MIN_VALUE, 1}};
    for (int[] r : refused) {
      due.is("refused line", x.line(r[0], r[1], r[2], r[3]), false);
    }
    due.is("two lines", x.count(2), 2);
    due.is("both ways", x.send(0, 1, 0, 0, 0, false), 1);
    due.is("both ways", x.send(0, 0, 1, 0, 0, false), 2);
    due.is("ticks", x.ticks(), 1);
    due.is("line(1, 0, 7, 2) in its place", x.line(1, 0, 7, 2), true);
    due.is("still two", x.count(2), 2);
    x.send(0, 0, 1, 0, 0, false);
    x.send(0, 0, 1, 1, 1, false);
    due.is("new ticks", x.ticks(), 7 + 2 * 2);
    due.is("line(0, 1, NONE, 1)", x.line(0, 1, -1, 1), true);
    due.is("one line", x.count(2), 1);
    due.is("line(1, 0, NONE, 1) again", x.line(1, 0, -1, 1), true);
    due.is("one line still", x.count(2), 1);
    due.is("no line", x.send(0, 1, 0, 0, 0, false), -1);
    due.is("the other one is there", x.send(0, 1, 2, 0, 0, false), 1);
    due.is("ticks of the other one", x.ticks(), 2000);
    due.is("PER does not matter to no line", x.line(2, 1, -1, 0), true);
    due.is("none is left", x.count(2), 0);
  }

  private static void lineAndPlan() {
    SumsToAll x = new SumsToAll();
    x.hosts(3);
    x.net(2, 1, 1);
    x.send(0, 0, 1, 0, 0, false);
    x.line(0, 0, 1, 1);
    x.line(0, 2, 1, 0);
    due.is("a refused line leaves the sends", x.count(3), 1);
    x.line(1, 2, 1, 1);
    due.is("a line takes the sends", x.count(3), 0);
    x.send(0, 0, 1, 0, 0, false);
    x.line(0, 2, -1, 1);
    due.is("no line takes the sends too", x.count(3), 0);
  }

  private static void net() {
    SumsToAll x = new SumsToAll();
    int[] bits = {1, 2, 4, 5, 7, 9, 12, 13, 15, 17, 20, 22, 25, 28, 32};
    for (int n = 2; n <= 16; n++) {
      x.hosts(n);
      due.is("ring of " + n, x.net(0, 0, 1), n == 2 ? 1 : n);
      x.hosts(n);
      due.is("all of " + n, x.net(1, 1000, 1000), n * (n - 1) / 2);
      x.hosts(n);
      due.is("row of " + n, x.net(2, 3, 3), n - 1);
      x.hosts(n);
      due.is("bits of " + n, x.net(3, 3, 3), bits[n - 2]);
    }
    x.hosts(5);
    int[][] refused = {{-1, 1, 1}, {4, 1, 1}, {0, -1, 1}, {0, -2, 1}, {0, 1001, 1}, {0, 1, 0}, {0, 1, 1001}};
    for (int[] r : refused) {
      due.is("refused net", x.net(r[0], r[1], r[2]), -1);
    }
    due.is("no lines yet", x.count(2), 0);
    due.is("row", x.net(2, 1, 1), 4);
    due.is("others stay: ring over the row", x.net(0, 2, 2), 5);
    x.line(1, 3, 9, 9);
    due.is("others stay: a row over all", x.net(2, 4, 1), 6);
    due.is("count(2)", x.count(2), 6);
    x.send(0, 1, 3, 0, 0, false);
    due.is("the other one's pace stays", x.ticks(), 18);
    x.clear();
    x.send(0, 0, 4, 0, 0, false);
    due.is("the ring's last line stays", x.ticks(), 4);
    x.clear();
    x.send(0, 0, 1, 0, 0, false);
    due.is("the row's pace is new", x.ticks(), 5);
    x.live(2, false);
    due.is("lost ones have lines", x.net(1, 1, 1), 10);
  }

  private static void netAndPlan() {
    SumsToAll x = new SumsToAll();
    x.net(0, 1, 1);
    x.send(0, 0, 1, 0, 0, false);
    x.net(0, 1, 0);
    due.is("a refused net leaves the sends", x.count(3), 1);
    x.net(0, 1, 1);
    due.is("a net takes the sends", x.count(3), 0);
  }

  private static void blocks() {
    SumsToAll x = new SumsToAll();
    x.hosts(4);
    for (int host = 0; host < 4; host++) {
      for (int block = 0; block < 16; block++) {
        due.is("set", x.set(host, block, 100 * host + block), true);
      }
    }
    int[][] none = {{-1, 0}, {4, 0}, {0, -1}, {0, 16}, {Integer.MAX_VALUE, 0}, {0, Integer.MIN_VALUE}};
    for (int[] p : none) {
      due.is("refused set", x.set(p[0], p[1], 5), false);
      due.throwsNone("at(" + p[0] + ", " + p[1] + ")", x, p[0], p[1]);
    }
    for (int host = 0; host < 4; host++) {
      for (int block = 0; block < 16; block++) {
        due.is("at", x.at(host, block), 100 * host + block);
      }
    }
    x.set(3, 15, Integer.MIN_VALUE);
    due.is("the least int", x.at(3, 15), Integer.MIN_VALUE);
    x.live(3, false);
    due.is("a lost one keeps its blocks", x.at(3, 15), Integer.MIN_VALUE);
    due.is("and may be set", x.set(3, 15, 8), true);
    due.is("and read", x.at(3, 15), 8);
    x.net(1, 1, 1);
    x.send(0, 0, 1, 0, 0, false);
    x.set(0, 0, 1);
    due.is("set leaves the sends", x.count(3), 1);
  }

  private static void live() {
    SumsToAll x = new SumsToAll();
    x.hosts(3);
    x.net(1, 1, 1);
    due.is("live(-1)", x.live(-1, true), false);
    due.is("live(3)", x.live(3, false), false);
    x.send(0, 0, 1, 0, 0, false);
    x.live(3, true);
    due.is("a refused live leaves the sends", x.count(3), 1);
    due.is("live(1, false)", x.live(1, false), true);
    due.is("the sends are gone", x.count(3), 0);
    due.is("two live", x.count(1), 2);
    due.is("three hosts", x.count(0), 3);
    due.is("three lines", x.count(2), 3);
    due.is("lost: no send from it", x.send(0, 1, 0, 0, 0, false), -1);
    due.is("lost: no send to it", x.send(0, 0, 1, 0, 0, false), -1);
    due.is("lost again", x.live(1, false), true);
    due.is("two live still", x.count(1), 2);
    due.is("live(0, false)", x.live(0, false), true);
    due.is("the last one", x.live(2, false), false);
    due.is("one live", x.count(1), 1);
    due.is("a lost one beside the last", x.live(0, false), true);
    due.is("the last one is live as it was", x.live(2, true), true);
    due.is("live(1, true)", x.live(1, true), true);
    due.is("two live again", x.count(1), 2);
    x.send(0, 1, 2, 0, 0, false);
    due.is("live again: it sends", x.count(3), 1);
    x.live(1, true);
    due.is("live, as it was: the sends are gone", x.count(3), 0);
    due.is("now the other may go", x.live(2, false), true);
  }

  private static void late() {
    SumsToAll x = new SumsToAll();
    x.net(1, 1, 1);
    x.send(0, 0, 1, 0, 0, false);
    due.is("late(0, 100000)", x.late(0, 100000), true);
    due.is("late leaves the sends", x.count(3), 1);
    due.is("late(0, 100001)", x.late(0, 100001), false);
    due.is("late(0, -1)", x.late(0, -1), false);
    due.is("late(2, 1)", x.late(2, 1), false);
    due.is("late(-1, 1)", x.late(-1, 1), false);
    due.is("freely(1)", x.freely(1), 100002);
    due.is("late(0, 0)", x.late(0, 0), true);
    due.is("freely(1) in time", x.freely(1), 2);
    x.live(1, false);
    due.is("a lost one may be late", x.late(1, 40), true);
    x.live(1, true);
    due.is("and is so when it is live again", x.freely(1), 40);
  }

  private static void counts() {
    SumsToAll x = new SumsToAll();
    x.hosts(5);
    x.net(0, 1, 1);
    x.live(4, false);
    x.send(3, 0, 1, 0, 0, false);
    x.send(3, 0, 1, 5, 6, true);
    x.send(3, 1, 0, 5, 6, true);
    x.send(9, 0, 1, 0, 0, false);
    int[] want = {5, 4, 5, 4, 10, 3};
    for (int what = 0; what < 6; what++) {
      due.is("count(" + what + ")", x.count(what), want[what]);
    }
    due.is("count(-1)", x.count(-1), -1);
    due.is("count(6)", x.count(6), -1);
  }
}
