import java.util.List;

/** Objects on which the edges are tried. */
final class Houses {
  static final int LEAST = Integer.MIN_VALUE;
  static final int MOST = Integer.MAX_VALUE;

  private Houses() { }

  /** All with all, WAIT 10 and PER 1. */
  static SumsToAll joined(int n) {
    SumsToAll x = new SumsToAll();
    x.hosts(n);
    x.net(1, 10, 1);
    return x;
  }

  /** So many hosts, of which the last ones are lost. */
  static SumsToAll joinedWithLive(int n, int m) {
    SumsToAll x = joined(n);
    for (int host = m; host < n; host++) {
      x.live(host, false);
    }
    return x;
  }

  /** Nothing is as at first: no two lines or blocks are alike, 2 with 4 is not joined, 3 is lost, all are late. */
  static SumsToAll worn() {
    SumsToAll x = new SumsToAll();
    x.hosts(5);
    for (int a = 0; a < 5; a++) {
      for (int b = a + 1; b < 5; b++) {
        x.line(a, b, 10 * a + b, 100 + 10 * b + a);
      }
      x.late(a, 7 * a + 1);
      for (int block = 0; block < 16; block++) {
        x.set(a, block, 1000 * a + block + 1);
      }
    }
    x.line(2, 4, SumsToAll.NONE, 1);
    x.live(3, false);
    x.send(2, 0, 1, 3, 3, true);
    x.send(2, 0, 1, 0, 4, false);
    x.send(2, 1, 2, 5, 0, true);
    x.send(9, 4, 0, 15, 15, false);
    return x;
  }

  /** Sixteen hosts, all 120 lines, 1199 sends in steps 0 to 63. */
  static SumsToAll nearlyFull() {
    SumsToAll x = joined(16);
    x.build(2, 2, 0);
    for (int i = 0; i < 175; i++) {
      x.send(63 - i / 16, 0, 1, i % 16, i % 16, false);
    }
    return x;
  }

  /** As many sends as there can be. */
  static SumsToAll full() {
    SumsToAll x = nearlyFull();
    x.send(53, 0, 1, 15, 15, false);
    return x;
  }

  /** Three hosts, of which 1 alone is live. */
  static SumsToAll lastOne() {
    SumsToAll x = joined(3);
    x.set(1, 0, 5);
    x.late(1, 6);
    x.late(2, 8);
    x.live(0, false);
    x.live(2, false);
    return x;
  }

  static List<Refusals> all(Due due) {
    return List.of(new Refusals(due, "new", SumsToAll::new), new Refusals(due, "worn", Houses::worn),
        new Refusals(due, "full", Houses::full), new Refusals(due, "last one", Houses::lastOne));
  }
}
