import java.util.NoSuchElementException;

/** All promises: long runs of calls, made by a fixed rule from the run's number, against the model. */
public final class ModelTest {
  private static final Due due = new Due();
  private static final int RUNS = 600;
  private static final int GRAPHS = 400;
  private static final int CALLS = 470;

  private long state;
  private SumsToAll x;
  private Model y;
  private int hosts;
  private final int run;

  private ModelTest(int run) {
    this.run = run;
    state = 0x9E3779B97F4A7C15L * (run + 1);
  }

  public static void main(String[] args) {
    for (int run = 0; run < RUNS; run++) {
      new ModelTest(run).go();
    }
    for (int run = 0; run < GRAPHS; run++) {
      new ModelTest(run).spreadOverLines();
    }
    due.end();
  }

  private int below(int bound) {
    state = state * 6364136223846793005L + 1442695040888963407L;
    return (int) ((state >>> 33) % bound);
  }

  /** Most often within 0 .. bound - 1, now and then just outside, or far outside. */
  private int near(int bound) {
    int odd = below(60);
    if (odd == 0) {
      return -1;
    }
    if (odd == 1) {
      return bound;
    }
    if (odd == 2) {
      return new int[] {Integer.MIN_VALUE, Integer.MAX_VALUE, -2, bound + 1, 32, 1 << 30}[below(6)];
    }
    return below(bound);
  }

  private int pick(int... of) {
    return of[below(of.length)];
  }

  private void go() {
    x = new SumsToAll();
    y = new Model();
    hosts = 2;
    start();
    for (int i = 0; i < CALLS; i++) {
      call();
    }
  }

  /** Lines here and there, sparse to dense, some hosts lost: the fewest steps from each. */
  private void spreadOverLines() {
    x = new SumsToAll();
    y = new Model();
    hosts = 0;
    hosts(2 + below(7));
    int dense = 2 + below(5);
    for (int a = 0; a < hosts; a++) {
      for (int b = 0; b < a; b++) {
        if (b == a - 1 && below(4) != 0 || below(8) < dense) {
          x.line(a, b, 1, 1);
          y.line(a, b, 1, 1);
        }
      }
    }
    if (below(3) == 0) {
      int lost = below(hosts);
      due.is("run " + run + ": live", x.live(lost, false), y.live(lost, false));
    }
    for (int root = 0; root < hosts; root++) {
      due.is("graph " + run + ": fewest(" + root + ")", x.fewest(root), y.fewest(root));
    }
  }

  private void start() {
    hosts(pick(2, 3, 4, 4, 5, 6, 7, 8, 8, 9, 12, 16));
    net(pick(0, 1, 1, 1, 1, 2, 3), pick(0, 1, 10, 1000), pick(1, 2, 7, 1000));
    for (int i = 0; i < 20; i++) {
      set();
    }
  }

  private void hosts(int n) {
    due.is("run " + run + ": hosts(" + n + ")", x.hosts(n), y.hosts(n));
    hosts = y.count(0);
  }

  private void net(int form, int wait, int per) {
    due.is("run " + run + ": net(" + form + ")", x.net(form, wait, per), y.net(form, wait, per));
  }

  private void set() {
    int h = near(hosts);
    int b = near(16);
    int v = pick(below(1000), Integer.MAX_VALUE, Integer.MIN_VALUE, -1, below(1 << 30));
    due.is("run " + run + ": set(" + h + ", " + b + ")", x.set(h, b, v), y.set(h, b, v));
  }

  private void call() {
    int kind = below(100);
    if (kind < 3) {
      changeHouse(kind);
    } else if (kind < 8) {
      changeHosts();
    } else if (kind < 12) {
      set();
    } else if (kind < 20) {
      build();
    } else if (kind < 60) {
      send();
    } else {
      ask(kind);
    }
  }

  private void changeHouse(int kind) {
    if (kind == 0 && below(4) == 0) {
      hosts(near(17));
      net(near(4), near(1001), near(1001));
    } else if (kind == 1) {
      net(near(4), near(1001), near(1001));
    } else {
      int a = near(hosts);
      int b = near(hosts);
      int wait = pick(-1, near(1001));
      int per = near(1001);
      due.is("run " + run + ": line", x.line(a, b, wait, per), y.line(a, b, wait, per));
    }
  }

  private void changeHosts() {
    int h = near(hosts);
    if (below(3) == 0) {
      boolean is = below(2) == 0;
      due.is("run " + run + ": live", x.live(h, is), y.live(h, is));
    } else {
      int t = near(100001);
      due.is("run " + run + ": late", x.late(h, t), y.late(h, t));
    }
  }

  private void build() {
    int way = near(4);
    int ask = near(5);
    int root = near(hosts);
    due.is("run " + run + ": build(" + way + ", " + ask + ", " + root + ")",
        x.build(way, ask, root), y.build(way, ask, root));
    due.is("run " + run + ": count(3)", x.count(3), y.count(3));
  }

  private void send() {
    int step = below(3) == 0 ? near(64) : below(6);
    int from = near(hosts);
    int to = near(hosts);
    int block = near(16);
    int there = below(3) == 0 ? near(16) : block;
    boolean adds = below(2) == 0;
    due.is("run " + run + ": send", x.send(step, from, to, block, there, adds),
        y.send(step, from, to, block, there, adds));
  }

  private void ask(int kind) {
    int way = near(4);
    int ask = near(5);
    int h = near(hosts);
    int b = near(16);
    String at = "run " + run + ": ";
    if (kind < 64) {
      due.is(at + "at(" + h + ", " + b + ")", at(h, b), y.at(h, b));
    } else if (kind < 68) {
      int what = near(6);
      due.is(at + "count(" + what + ")", x.count(what), y.count(what));
    } else if (kind < 74) {
      int i = near(y.count(3) + 1);
      int what = near(6);
      due.is(at + "sent(" + i + ", " + what + ")", x.sent(i, what), y.sent(i, what));
    } else if (kind < 80) {
      due.is(at + "right(" + ask + ", " + h + ")", x.right(ask, h), y.right(ask, h));
    } else if (kind < 83) {
      due.is(at + "run()", x.run(), y.run());
      for (int host = 0; host < hosts; host++) {
        due.is(at + "at(" + host + ", " + b + ")", at(host, b), y.at(host, b));
      }
    } else if (kind < 86) {
      due.is(at + "ticks()", x.ticks(), y.ticks());
    } else if (kind < 90) {
      due.is(at + "freely(" + h + ")", x.freely(h), y.freely(h));
    } else if (kind < 93) {
      due.is(at + "best(" + ask + ", " + h + ")", x.best(ask, h), y.best(ask, h));
    } else if (kind < 97) {
      due.is(at + "price(" + way + ", " + ask + ", " + h + ")", x.price(way, ask, h), y.price(way, ask, h));
    } else if (kind < 98 && below(8) == 0) {
      due.is(at + "clear()", x.clear(), y.clear());
    } else if (below(4) == 0) {
      due.is(at + "fewest(" + h + ")", x.fewest(h), y.fewest(h));
    }
  }

  private int at(int h, int b) {
    try {
      return x.at(h, b);
    } catch (NoSuchElementException e) {
      return Model.THROWS;
    }
  }
}
