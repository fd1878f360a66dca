import java.util.ArrayList;
import java.util.List;

/** The edges of the ways and of promises 10, 18, 19 and 20: a sentence with a bound, a method of the test. */
public final class WaysEdgesTest {
  private static final Due due = new Due();
  private static final List<Refusals> everywhere = Houses.all(due);
  private static final Refusals worn = new Refusals(due, "worn", Houses::worn);
  private static final int LEAST = Houses.LEAST;
  private static final int MOST = Houses.MOST;

  /** By way and ask: whether there is one. */
  private static final String[] KNOWN = {"yyyyn", "yyynn", "nnyyn", "yynyy"};

  public static void main(String[] args) {
    buildRefusesNoSuchWayAskRoot();
    buildAsksForTheRootOfEachAsk();
    buildRefusesWhereThereIsNoWay();
    buildRefusesALackingLine();
    buildLooksAtNoneThenWayThenLine();
    buildNeedsItsOwnLinesAlone();
    buildInPlaceOfAny();
    buildAnswersItsSteps();
    buildOfOneAlone();
    halvingOfAPowerOfTwo();
    turnOfTwoMovesUp();
    treeBelowM();
    ringComesRound();
    ringOfAllComesRound();
    directComesRound();
    ranksAreTheLiveOnes();
    bestRefusesNoSuchAskRoot();
    bestWhereNoneCanBe();
    bestOfEqualOnesIsTheLeast();
    bestByOneTick();
    bestLeavesThePlan();
    priceAnswersAsBuildDoes();
    priceIsTheTicksOfThePlan();
    priceOfTheLeastAndTheMost();
    fewestRefusesNoneSuch();
    fewestOfAtMostEight();
    fewestWhereItCannotBe();
    fewestOfOneTwoAndThree();
    fewestOfTheMostSteps();
    due.end();
  }

  // Promise 10

  private static void buildRefusesNoSuchWayAskRoot() {
    for (Refusals r : everywhere) {
      for (int odd : new int[] {-1, -2, 4, 5, LEAST, MOST}) {
        r.none("build(" + odd + ", 0, 1)", x -> x.build(odd, 0, 1));
      }
      for (int odd : new int[] {-1, -2, 5, 6, 32, 33, LEAST, MOST}) {
        r.none("build(0, " + odd + ", 1)", x -> x.build(0, odd, 1));
        r.none("build(3, " + odd + ", 1)", x -> x.build(3, odd, 1));
      }
      for (int odd : new int[] {-1, -2, 16, 17, LEAST, MOST}) {
        r.none("build(0, 0, " + odd + ")", x -> x.build(0, 0, odd));
      }
    }
    worn.none("build(0, 0, 5)", x -> x.build(0, 0, 5));
    worn.none("build(-1, -1, -1)", x -> x.build(-1, -1, -1));
  }

  private static void buildAsksForTheRootOfEachAsk() {
    for (int way = 0; way < 4; way++) {
      for (int ask = 0; ask < 5; ask++) {
        int w = way;
        int a = ask;
        for (int root : new int[] {-1, 3, 5}) {
          worn.none("build(" + w + ", " + a + ", " + root + ")", x -> x.build(w, a, root));
        }
      }
    }
  }

  private static void buildRefusesWhereThereIsNoWay() {
    int[][] none = {{0, 4}, {1, 3}, {1, 4}, {2, 0}, {2, 1}, {2, 4}, {3, 2}};
    for (Refusals r : everywhere) {
      for (int[] n : none) {
        r.is("build(" + n[0] + ", " + n[1] + ", 1)", x -> x.build(n[0], n[1], 1), -2);
      }
    }
  }

  private static void buildRefusesALackingLine() {
    Refusals fresh = new Refusals(due, "new", SumsToAll::new);
    for (int way = 0; way < 4; way++) {
      for (int ask = 0; ask < 5; ask++) {
        int w = way;
        int a = ask;
        if (KNOWN[way].charAt(ask) == 'y') {
          fresh.is("build(" + w + ", " + a + ", 0)", x -> x.build(w, a, 0), -3);
        }
      }
    }
    worn.is("build(0, 3, 0), 2 with 4 lacking", x -> x.build(0, 3, 0), -3);
    worn.is("build(3, 4, 0), 2 with 4 lacking", x -> x.build(3, 4, 0), -3);
    worn.is("build(3, 0, 2), 2 with 4 lacking", x -> x.build(3, 0, 2), -3);
    due.is("build(3, 0, 1) does without it", Houses.worn().build(3, 0, 1), 3);
  }

  private static void buildLooksAtNoneThenWayThenLine() {
    SumsToAll x = new SumsToAll();
    due.is("no root, no way, no line", x.build(2, 4, 2), -1);
    due.is("no way, no line", x.build(2, 4, 1), -2);
    due.is("no line", x.build(2, 2, 1), -3);
    x.net(1, 1, 1);
    due.is("all is there", x.build(2, 2, 1), 1);
    x.hosts(3);
    due.is("three, no line", x.build(2, 2, 1), -2);
  }

  /** Each line is taken away in turn: it is lacking if the plan has a letter over it, and else not. */
  private static void buildNeedsItsOwnLinesAlone() {
    for (int n : new int[] {2, 3, 4, 5, 8}) {
      for (int way = 0; way < 4; way++) {
        for (int ask = 0; ask < 5; ask++) {
          for (int root = 0; root < n; root++) {
            needsItsOwnLines(n, way, ask, root);
          }
        }
      }
    }
  }

  private static void needsItsOwnLines(int n, int way, int ask, int root) {
    SumsToAll x = Houses.joined(n);
    int steps = x.build(way, ask, root);
    if (steps < 0) {
      return;
    }
    boolean[][] used = used(x, n);
    for (int a = 0; a < n; a++) {
      for (int b = a + 1; b < n; b++) {
        SumsToAll y = Houses.joined(n);
        y.line(a, b, SumsToAll.NONE, 1);
        String call = "(" + way + ", " + ask + ", " + root + ") of " + n + " without " + a + " with " + b;
        due.is("build" + call, y.build(way, ask, root), used[a][b] ? -3 : steps);
        due.is("count(3) behind build" + call, y.count(3), used[a][b] ? 0 : x.count(3));
        due.is("price" + call, y.price(way, ask, root), used[a][b] ? -3 : x.ticks());
      }
    }
  }

  private static boolean[][] used(SumsToAll x, int n) {
    boolean[][] used = new boolean[n][n];
    for (int i = 0; i < x.count(3); i++) {
      used[x.sent(i, 1)][x.sent(i, 2)] = true;
      used[x.sent(i, 2)][x.sent(i, 1)] = true;
    }
    return used;
  }

  private static void buildInPlaceOfAny() {
    SumsToAll x = Houses.full();
    due.is("in place of 1200", x.build(3, 4, 0), 16);
    due.is("none of them is left", x.count(3), 240);
    due.is("none of their steps", x.count(4), 16);
    due.is("none of their letters", x.count(5), 240);
    due.is("in place of itself", x.build(3, 4, 0), 16);
    due.is("it is there once", x.count(3), 240);
    SumsToAll y = Houses.lastOne();
    y.live(0, true);
    y.send(5, 0, 1, 0, 0, false);
    due.is("one send", y.count(3), 1);
    due.is("in place of one", y.build(0, 0, 0), 1);
    due.is("two blocks", y.count(3), 2);
  }

  private static void buildAnswersItsSteps() {
    for (int m = 1; m <= 16; m++) {
      int log = 0;
      while (1 << log < m) {
        log++;
      }
      boolean power = 1 << log == m;
      int half = power ? log : -2;
      int turn = m == 1 ? 0 : m == 2 ? 1 : m;
      int[][] want = {{m - 1, m - 1, 2 * (m - 1), m - 1, -2}, {log, log, 2 * log, -2, -2},
          {-2, -2, half, half, -2}, {m - 1, m - 1, -2, m - 1, turn}};
      SumsToAll x = Houses.joinedWithLive(16, m);
      for (int way = 0; way < 4; way++) {
        for (int ask = 0; ask < 5; ask++) {
          x.clear();
          int steps = want[way][ask];
          String call = "build(" + way + ", " + ask + ", " + (m - 1) + ") of " + m;
          due.is(call, x.build(way, ask, m - 1), steps);
          due.is(call + ": count(4)", x.count(4), Math.max(0, steps));
        }
      }
    }
  }

  private static void buildOfOneAlone() {
    for (int way = 0; way < 4; way++) {
      for (int ask = 0; ask < 5; ask++) {
        SumsToAll x = Houses.lastOne();
        boolean is = KNOWN[way].charAt(ask) == 'y';
        String call = "(" + way + ", " + ask + ", 1) of one alone";
        due.is("build" + call, x.build(way, ask, 1), is ? 0 : -2);
        due.is("price" + call, x.price(way, ask, 1), is ? 0 : -2);
        due.is("nothing is sent", x.count(3), 0);
        x.hosts(2);
        x.live(0, false);
        due.is("without lines: build" + call, x.build(way, ask, 1), is ? 0 : -2);
        due.is("of the lost one: build" + call, x.build(way, ask, 0), -1);
      }
    }
  }

  // Term 2: the ways

  private static void halvingOfAPowerOfTwo() {
    boolean[] power = {false, true, true, false, true, false, false, false, true, false, false, false, false, false,
        false, false, true};
    for (int m = 1; m <= 16; m++) {
      SumsToAll x = Houses.joinedWithLive(16, m);
      for (int ask = 2; ask < 4; ask++) {
        due.is("build(2, " + ask + ", 0) of " + m, x.build(2, ask, 0) == -2, !power[m]);
        due.is("price(2, " + ask + ", 0) of " + m, x.price(2, ask, 0) == -2, !power[m]);
      }
    }
    SumsToAll x = Houses.joined(16);
    x.build(2, 3, 0);
    due.is("the last step's letters have eight blocks", x.count(3), 16 * (1 + 2 + 4 + 8));
    due.is("15's first block in the last step", x.sent(239 - 7, 3), 8);
    due.is("15's last block in the last step", x.sent(239, 3), 15);
    due.is("goes to 7", x.sent(239, 2), 7);
    due.is("0's first block in the last step", x.sent(112, 3), 0);
    due.is("goes to 8", x.sent(112, 2), 8);
    due.is("put", x.sent(112, 5), 0);
    due.is("all have all", x.right(3, 0), 1);
    x.build(2, 2, 0);
    due.is("to all it is added", x.sent(1023, 5), 1);
    due.is("all m blocks in each letter", x.count(3), 16 * x.count(5));
  }

  private static void turnOfTwoMovesUp() {
    SumsToAll two = Houses.joined(2);
    due.is("of two", two.build(3, 4, 0), 1);
    sends(two, new int[][] {{0, 0, 1, 1, 0, 0}, {0, 1, 0, 0, 1, 0}});
    SumsToAll three = Houses.joined(3);
    due.is("of three", three.build(3, 4, 0), 3);
    sends(three, new int[][] {{0, 1, 2, 2, 1, 0}, {0, 2, 1, 1, 2, 0}, {1, 0, 1, 1, 0, 0}, {1, 1, 0, 0, 1, 0},
        {2, 0, 2, 2, 0, 0}, {2, 2, 0, 0, 2, 0}});
    SumsToAll four = Houses.joined(4);
    due.is("of four", four.build(3, 4, 3), 4);
    sends(four, new int[][] {{0, 1, 3, 3, 1, 0}, {0, 3, 1, 1, 3, 0}, {1, 0, 1, 1, 0, 0}, {1, 1, 0, 0, 1, 0},
        {1, 2, 3, 3, 2, 0}, {1, 3, 2, 2, 3, 0}, {2, 0, 2, 2, 0, 0}, {2, 2, 0, 0, 2, 0}, {3, 0, 3, 3, 0, 0},
        {3, 1, 2, 2, 1, 0}, {3, 2, 1, 1, 2, 0}, {3, 3, 0, 0, 3, 0}});
  }

  private static void sends(SumsToAll x, int[][] want) {
    due.is("count(3)", x.count(3), want.length);
    for (int i = 0; i < want.length; i++) {
      for (int what = 0; what < 6; what++) {
        due.is("sent(" + i + ", " + what + ")", x.sent(i, what), want[i][what]);
      }
    }
  }

  /** {step, from, to} of each letter, in order. */
  private static String letters(SumsToAll x) {
    List<String> all = new ArrayList<>();
    for (int i = 0; i < x.count(3); i++) {
      String one = x.sent(i, 0) + ":" + x.sent(i, 1) + ">" + x.sent(i, 2) + (x.sent(i, 5) == 1 ? "+" : "");
      if (all.isEmpty() || !all.get(all.size() - 1).equals(one)) {
        all.add(one);
      }
    }
    return String.join(" ", all);
  }

  /** q + d is just below m, or m itself: then nothing goes there. */
  private static void treeBelowM() {
    String[] spread = {"", "", "0:0>1", "0:0>1 1:0>2", "0:0>1 1:0>2 1:1>3", "0:0>1 1:0>2 1:1>3 2:0>4",
        "0:0>1 1:0>2 1:1>3 2:0>4 2:1>5", "0:0>1 1:0>2 1:1>3 2:0>4 2:1>5 2:2>6",
        "0:0>1 1:0>2 1:1>3 2:0>4 2:1>5 2:2>6 2:3>7", "0:0>1 1:0>2 1:1>3 2:0>4 2:1>5 2:2>6 2:3>7 3:0>8"};
    for (int m = 2; m <= 9; m++) {
      SumsToAll x = Houses.joined(m);
      x.build(1, 0, 0);
      due.is("tree's spread of " + m, letters(x), spread[m]);
      due.is("all m blocks in each", x.count(3), m * (m - 1));
    }
    String[] toOne = {"", "", "0:0>1+", "0:1>2+ 1:0>2+", "0:1>3+ 0:2>0+ 1:0>3+", "0:3>4+ 1:1>4+ 1:2>0+ 2:0>4+"};
    for (int m = 2; m <= 5; m++) {
      SumsToAll x = Houses.joined(m);
      x.build(1, 1, m - 1);
      due.is("tree to the last of " + m, letters(x), toOne[m]);
    }
    SumsToAll x = Houses.joined(5);
    due.is("to all is both", x.build(1, 2, 4), 6);
    due.is("tree to all by the last of five", letters(x), "0:3>4+ 1:1>4+ 1:2>0+ 2:0>4+ 3:4>0 4:0>2 4:4>1 5:4>3");
  }

  private static void ringComesRound() {
    String[] spread = {"0:0>1 1:1>2 2:2>3", "0:1>2 1:2>3 2:3>0", "0:2>3 1:3>0 2:0>1", "0:3>0 1:0>1 2:1>2"};
    String[] toOne = {"0:1>2+ 1:2>3+ 2:3>0+", "0:2>3+ 1:3>0+ 2:0>1+", "0:3>0+ 1:0>1+ 2:1>2+", "0:0>1+ 1:1>2+ 2:2>3+"};
    SumsToAll x = Houses.joined(4);
    for (int root = 0; root < 4; root++) {
      x.build(0, 0, root);
      due.is("ring's spread from " + root, letters(x), spread[root]);
      due.is("all blocks", x.count(3), 12);
      x.build(0, 1, root);
      due.is("ring to " + root, letters(x), toOne[root]);
      due.is("all blocks", x.count(3), 12);
    }
  }

  /** Blocks i - t come round below 0, blocks i + 1 - t at both ends. */
  private static void ringOfAllComesRound() {
    int[][] toAll = {{0, 0, 1, 0, 0, 1}, {0, 1, 2, 1, 1, 1}, {0, 2, 0, 2, 2, 1}, {1, 0, 1, 2, 2, 1}, {1, 1, 2, 0, 0, 1},
        {1, 2, 0, 1, 1, 1}, {2, 0, 1, 1, 1, 0}, {2, 1, 2, 2, 2, 0}, {2, 2, 0, 0, 0, 0}, {3, 0, 1, 0, 0, 0},
        {3, 1, 2, 1, 1, 0}, {3, 2, 0, 2, 2, 0}};
    int[][] gather = {{0, 0, 1, 0, 0, 0}, {0, 1, 2, 1, 1, 0}, {0, 2, 0, 2, 2, 0}, {1, 0, 1, 2, 2, 0}, {1, 1, 2, 0, 0, 0},
        {1, 2, 0, 1, 1, 0}};
    SumsToAll x = Houses.joined(3);
    for (int root = 0; root < 3; root++) {
      x.build(0, 2, root);
      sends(x, toAll);
      x.build(0, 3, root);
      sends(x, gather);
    }
    SumsToAll two = Houses.joined(2);
    two.build(0, 2, 1);
    sends(two, new int[][] {{0, 0, 1, 0, 0, 1}, {0, 1, 0, 1, 1, 1}, {1, 0, 1, 1, 1, 0}, {1, 1, 0, 0, 0, 0}});
  }

  private static void directComesRound() {
    String[] spread = {"0:0>1 1:0>2 2:0>3", "0:1>2 1:1>3 2:1>0", "0:2>3 1:2>0 2:2>1", "0:3>0 1:3>1 2:3>2"};
    String[] toOne = {"0:1>0+ 1:2>0+ 2:3>0+", "0:2>1+ 1:3>1+ 2:0>1+", "0:3>2+ 1:0>2+ 2:1>2+", "0:0>3+ 1:1>3+ 2:2>3+"};
    SumsToAll x = Houses.joined(4);
    for (int root = 0; root < 4; root++) {
      x.build(3, 0, root);
      due.is("direct spread from " + root, letters(x), spread[root]);
      x.build(3, 1, root);
      due.is("direct to " + root, letters(x), toOne[root]);
      x.build(3, 3, root);
      due.is("direct gather", letters(x),
          "0:0>1 0:1>2 0:2>3 0:3>0 1:0>2 1:1>3 1:2>0 1:3>1 2:0>3 2:1>0 2:2>1 2:3>2");
      due.is("the last one's own block", x.sent(11, 3), 3);
      due.is("the first one's own block in the last step", x.sent(8, 3), 0);
    }
  }

  /** 0 and the last one are lost: ranks are 1, 2, 4, 5. */
  private static void ranksAreTheLiveOnes() {
    SumsToAll x = Houses.joined(7);
    x.live(0, false);
    x.live(3, false);
    x.live(6, false);
    x.build(0, 0, 4);
    due.is("ring's spread from 4", letters(x), "0:4>5 1:5>1 2:1>2");
    x.build(1, 1, 5);
    due.is("tree to 5", letters(x), "0:2>5+ 0:4>1+ 1:1>5+");
    x.build(2, 2, 5);
    due.is("halving", letters(x), "0:1>2+ 0:2>1+ 0:4>5+ 0:5>4+ 1:1>4+ 1:2>5+ 1:4>1+ 1:5>2+");
    x.build(3, 4, 5);
    due.is("the turn's first", letters(x).substring(0, 11), "0:2>5 0:5>2");
    due.is("of block 3, a rank", x.sent(0, 3), 3);
    due.is("to block 1, a rank", x.sent(0, 4), 1);
    x.live(0, true);
    x.build(0, 0, 5);
    due.is("live again it is the first rank", letters(x), "0:5>0 1:0>1 2:1>2 3:2>4");
    x.build(1, 0, 5);
    due.is("five blocks now", x.count(3), 20);
  }

  // Promise 18

  private static void bestRefusesNoSuchAskRoot() {
    for (Refusals r : everywhere) {
      for (int ask : new int[] {-1, -2, 5, 6, 32, LEAST, MOST}) {
        r.none("best(" + ask + ", 1)", x -> x.best(ask, 1));
      }
      for (int root : new int[] {-1, 16, LEAST, MOST}) {
        r.none("best(4, " + root + ")", x -> x.best(4, root));
      }
    }
    for (int ask = 0; ask < 5; ask++) {
      int one = ask;
      worn.none("best(" + ask + ", 3), 3 being lost", x -> x.best(one, 3));
      worn.none("best(" + ask + ", 5)", x -> x.best(one, 5));
    }
  }

  private static void bestWhereNoneCanBe() {
    Refusals fresh = new Refusals(due, "new", SumsToAll::new);
    for (int ask = 0; ask < 5; ask++) {
      int one = ask;
      fresh.is("best(" + ask + ", 0)", x -> x.best(one, 0), -2);
      due.is("of two with a line: best(" + ask + ", 0)", Houses.joined(2).best(ask, 0) >= 0, true);
    }
    worn.is("best(4, 0), 2 with 4 lacking", x -> x.best(4, 0), -2);
    worn.is("best(3, 0), 2 with 4 lacking", x -> x.best(3, 0), -2);
    due.is("best(0, 0) can be", Houses.worn().best(0, 0) >= 0, true);
    SumsToAll x = new SumsToAll();
    x.hosts(3);
    x.net(2, 1, 1);
    due.is("a row of three: a ring's spread from 0 alone", x.best(0, 0), 0);
    due.is("from 1 tree and direct, which are equal", x.best(0, 1), 1);
    due.is("from 2 none", x.best(0, 2), -2);
  }

  private static void bestOfEqualOnesIsTheLeast() {
    SumsToAll x = Houses.joined(2);
    int[] two = {0, 0, 2, 0, 3};
    for (int ask = 0; ask < 5; ask++) {
      due.is("of two: best(" + ask + ", 0)", x.best(ask, 0), two[ask]);
    }
    SumsToAll one = Houses.lastOne();
    int[] alone = {0, 0, 0, 0, 3};
    for (int ask = 0; ask < 5; ask++) {
      due.is("of one alone: best(" + ask + ", 1)", one.best(ask, 1), alone[ask]);
    }
    SumsToAll three = Houses.joined(3);
    due.is("of three: tree and ring are equal", three.price(0, 0, 0), three.price(1, 0, 0));
    due.is("the ring", three.best(0, 0), 0);
    due.is("gather: ring and direct are equal", three.price(0, 3, 0), three.price(3, 3, 0));
    due.is("the ring", three.best(3, 0), 0);
  }

  /** The price of a spread from 0 of three: ring over 0-1-2, tree and direct over 0-1 and 0-2. */
  private static void bestByOneTick() {
    int[][] waits = {{10, 11, 1}, {10, 10, 0}, {11, 10, 0}};
    for (int[] w : waits) {
      SumsToAll x = Houses.joined(3);
      x.line(1, 2, w[1], 1);
      x.line(0, 2, w[0], 1);
      due.is("ring", x.price(0, 0, 0), 13 + w[1] + 3);
      due.is("tree", x.price(1, 0, 0), 13 + w[0] + 3);
      due.is("direct", x.price(3, 0, 0), 13 + w[0] + 3);
      due.is("best", x.best(0, 0), w[2]);
    }
  }

  private static void bestLeavesThePlan() {
    for (Refusals r : List.of(worn, new Refusals(due, "full", Houses::full))) {
      for (int ask = 0; ask < 5; ask++) {
        int one = ask;
        int want = r == worn ? Houses.worn().best(ask, 1) : Houses.full().best(ask, 1);
        r.is("best(" + ask + ", 1)", x -> x.best(one, 1), want);
      }
    }
  }

  // Promise 19

  private static void priceAnswersAsBuildDoes() {
    for (int way = -1; way <= 4; way++) {
      for (int ask = -1; ask <= 5; ask++) {
        for (int root : new int[] {LEAST, -1, 0, 1, 2, 3, 4, 5, MOST}) {
          int w = way;
          int a = ask;
          int built = Houses.worn().build(way, ask, root);
          SumsToAll y = Houses.worn();
          y.build(way, ask, root);
          String call = "price(" + w + ", " + a + ", " + root + ")";
          worn.is(call, x -> x.price(w, a, root), built < 0 ? built : y.ticks());
        }
      }
    }
    int[] kinds = new int[4];
    SumsToAll x = Houses.worn();
    for (int way = 0; way < 4; way++) {
      for (int ask = 0; ask < 5; ask++) {
        kinds[-Math.min(0, Math.max(-3, x.price(way, ask, 2)))]++;
      }
    }
    due.is("some have a price", kinds[0] > 0, true);
    due.is("seven have no way", kinds[2], 7);
    due.is("some lack a line", kinds[3] > 0, true);
  }

  private static void priceIsTheTicksOfThePlan() {
    for (int m = 1; m <= 16; m++) {
      SumsToAll x = Houses.joinedWithLive(16, m);
      for (int way = 0; way < 4; way++) {
        for (int ask = 0; ask < 5; ask++) {
          x.clear();
          int price = x.price(way, ask, m - 1);
          due.is("the plan stays", x.count(3), 0);
          if (x.build(way, ask, m - 1) >= 0) {
            due.is("price(" + way + ", " + ask + ", " + (m - 1) + ") of " + m, price, x.ticks());
          }
        }
      }
    }
  }

  private static void priceOfTheLeastAndTheMost() {
    SumsToAll x = new SumsToAll();
    x.net(1, 0, 1);
    due.is("two blocks of the quickest line", x.price(0, 0, 0), 2);
    due.is("a turn of two: one block", x.price(3, 4, 0), 1);
    x.hosts(16);
    x.net(1, 1000, 1000);
    due.is("15 letters of 16 of the slowest", x.price(3, 0, 15), 15 * 17000);
    due.is("8 steps of 16 of the slowest", x.price(1, 2, 15), 8 * 17000);
    due.is("30 steps of 1 of the slowest", x.price(0, 2, 15), 30 * 2000);
    due.is("1, 2, 4 and 8 of the slowest", x.price(2, 3, 15), 4 * 1000 + 15 * 1000);
  }

  // Promise 20

  private static void fewestRefusesNoneSuch() {
    for (Refusals r : everywhere) {
      for (int root : new int[] {-1, -2, 16, 17, LEAST, MOST}) {
        r.none("fewest(" + root + ")", x -> x.fewest(root));
      }
    }
    worn.none("fewest(5)", x -> x.fewest(5));
    worn.none("fewest(3), 3 being lost", x -> x.fewest(3));
    due.is("fewest(4)", Houses.worn().fewest(4), 2);
  }

  private static void fewestOfAtMostEight() {
    for (int m = 1; m <= 16; m++) {
      SumsToAll x = Houses.joinedWithLive(16, m);
      int want = m > 8 ? -1 : m > 4 ? 3 : m > 2 ? 2 : m - 1;
      due.is(m + " of sixteen are live: fewest(0)", x.fewest(0), want);
      due.is(m + " of sixteen are live: fewest(last)", x.fewest(m - 1), want);
    }
    Refusals nine = new Refusals(due, "nine", () -> Houses.joined(9));
    for (int root = 0; root < 9; root++) {
      int one = root;
      nine.none("fewest(" + root + ")", x -> x.fewest(one));
    }
    for (int lost = 0; lost < 9; lost++) {
      SumsToAll x = Houses.joined(9);
      x.live(lost, false);
      for (int root = 0; root < 9; root++) {
        due.is("nine without " + lost + ": fewest(" + root + ")", x.fewest(root), root == lost ? -1 : 3);
      }
    }
  }

  private static void fewestWhereItCannotBe() {
    new Refusals(due, "new", SumsToAll::new).none("fewest(0)", x -> x.fewest(0));
    for (int apart = 0; apart < 8; apart++) {
      SumsToAll x = Houses.joined(8);
      for (int other = 0; other < 8; other++) {
        x.line(apart, other, SumsToAll.NONE, 1);
      }
      for (int root = 0; root < 8; root++) {
        due.is(apart + " has no line: fewest(" + root + ")", x.fewest(root), -1);
      }
      x.live(apart, false);
      due.is("without it", x.fewest((apart + 1) % 8), 3);
    }
    SumsToAll row = new SumsToAll();
    row.hosts(5);
    row.net(2, 1, 1);
    due.is("a row", row.fewest(0), 4);
    row.live(2, false);
    due.is("a lost one sends nothing on", row.fewest(0), -1);
    row.live(0, false);
    row.live(1, false);
    due.is("those behind it", row.fewest(3), 1);
  }

  private static void fewestOfOneTwoAndThree() {
    SumsToAll one = Houses.lastOne();
    due.is("one alone", one.fewest(1), 0);
    due.is("its lost one", one.fewest(0), -1);
    one.live(0, true);
    due.is("two", one.fewest(1), 1);
    due.is("two", one.fewest(0), 1);
    one.live(2, true);
    due.is("three", one.fewest(0), 2);
  }

  /** A host sends to one only in a step: a star needs as many steps as it has tips. */
  private static void fewestOfTheMostSteps() {
    for (int n = 2; n <= 8; n++) {
      SumsToAll star = new SumsToAll();
      SumsToAll row = new SumsToAll();
      star.hosts(n);
      row.hosts(n);
      row.net(2, 1000, 1000);
      for (int tip = 1; tip < n; tip++) {
        star.line(0, tip, 0, 1);
      }
      for (int root = 0; root < n; root++) {
        due.is("a star of " + n + ": fewest(" + root + ")", star.fewest(root), n - 1);
        int far = Math.max(root, n - 1 - root);
        boolean middle = 2 * root == n - 1;
        due.is("a row of " + n + ": fewest(" + root + ")", row.fewest(root), middle ? far + 1 : far);
      }
      due.is("the sends are none", star.count(3), 0);
    }
  }
}
