/** Promises 11 to 15: plans told one by one, shown, shown right, and done. */
public final class PlanTest {
  private static final Due due = new Due();

  public static void main(String[] args) {
    refusedSends();
    rulesOfAStep();
    mostSends();
    order();
    clear();
    rightOfEachAsk();
    rightOfSums();
    rightOfDoubledSums();
    rightOfOtherBlocks();
    rightAmongTheLost();
    runs();
    due.end();
  }

  private static SumsToAll full(int n) {
    SumsToAll x = new SumsToAll();
    x.hosts(n);
    x.net(1, 1, 1);
    return x;
  }

  private static void refusedSends() {
    SumsToAll x = full(4);
    x.line(2, 3, -1, 1);
    x.live(1, false);
    int[][] refused = {{-1, 0, 2, 0, 0}, {64, 0, 2, 0, 0}, {0, -1, 2, 0, 0}, {0, 4, 2, 0, 0},
        {0, 0, -1, 0, 0}, {0, 0, 4, 0, 0}, {0, 0, 0, 0, 0}, {0, 0, 1, 0, 0}, {0, 1, 0, 0, 0},
        {0, 2, 3, 0, 0}, {0, 3, 2, 0, 0}, {0, 0, 2, -1, 0}, {0, 0, 2, 16, 0}, {0, 0, 2, 0, -1},
        {0, 0, 2, 0, 16}, {Integer.MAX_VALUE, 0, 2, 0, 0}, {Integer.MIN_VALUE, 0, 2, 0, 0}};
    for (int[] r : refused) {
      due.is("refused send", x.send(r[0], r[1], r[2], r[3], r[4], true), -1);
    }
    due.is("no sends", x.count(3), 0);
    due.is("the edges", x.send(63, 3, 0, 15, 15, true), 1);
    due.is("steps of one send", x.count(4), 64);
    due.is("the edges", x.send(0, 0, 2, 0, 15, false), 2);
    due.is("steps", x.count(4), 64);
  }

  private static void rulesOfAStep() {
    SumsToAll x = full(4);
    due.is("a send", x.send(1, 0, 1, 0, 0, false), 1);
    due.is("sends to two", x.send(1, 0, 2, 1, 1, false), -1);
    due.is("has from two", x.send(1, 2, 1, 1, 1, false), -1);
    due.is("a block by two sends", x.send(1, 0, 1, 3, 0, true), -1);
    due.is("the same again", x.send(1, 0, 1, 0, 0, false), -1);
    due.is("one block to two blocks", x.send(1, 0, 1, 0, 1, false), 2);
    due.is("back", x.send(1, 1, 0, 0, 0, false), 3);
    due.is("others", x.send(1, 2, 3, 0, 0, false), 4);
    due.is("in another step: to two", x.send(2, 0, 2, 0, 0, false), 5);
    due.is("in another step: a block again", x.send(0, 0, 1, 0, 0, false), 6);
    due.is("refused ones are not there", x.count(3), 6);
  }

  private static void mostSends() {
    SumsToAll x = full(16);
    due.is("build", x.build(2, 2, 0), 4);
    int many = 1024;
    for (int step = 4; step < 15; step++) {
      for (int block = 0; block < 16; block++) {
        many++;
        due.is("one more", x.send(step, 0, 1, block, block, false), many);
      }
    }
    due.is("1200 are there", x.count(3), 1200);
    due.is("no more than 1200", x.send(62, 4, 5, 0, 0, false), -1);
    due.is("nor ahead of them", x.send(0, 4, 5, 0, 0, false), -1);
    due.is("1200 still", x.count(3), 1200);
    due.is("the last one", x.sent(1199, 4), 15);
    due.is("no other", x.sent(1200, 4), -1);
    due.is("clear", x.clear(), 1200);
    due.is("and again", x.send(62, 4, 5, 0, 0, false), 1);
  }

  private static void order() {
    SumsToAll x = full(4);
    int[][] told = {{2, 3, 0, 1, 1, 1}, {0, 3, 2, 7, 0, 0}, {0, 1, 3, 0, 15, 1}, {0, 1, 3, 15, 2, 0},
        {63, 0, 1, 5, 5, 0}, {0, 0, 1, 9, 9, 1}, {2, 3, 0, 0, 0, 0}};
    int[] place = {5, 3, 2, 1, 6, 0, 4};
    for (int i = 0; i < told.length; i++) {
      int[] t = told[i];
      due.is("send", x.send(t[0], t[1], t[2], t[3], t[4], t[5] == 1), i + 1);
    }
    for (int i = 0; i < told.length; i++) {
      for (int what = 0; what < 6; what++) {
        due.is("sent(" + place[i] + ", " + what + ")", x.sent(place[i], what), told[i][what]);
      }
    }
    due.is("sent(-1, 0)", x.sent(-1, 0), -1);
    due.is("sent(7, 0)", x.sent(7, 0), -1);
    due.is("sent(0, 6)", x.sent(0, 6), -1);
    due.is("sent(0, -1)", x.sent(0, -1), -1);
    due.is("letters", x.count(5), 5);
  }

  private static void clear() {
    SumsToAll x = full(3);
    x.set(0, 0, 4);
    x.send(5, 0, 1, 0, 0, false);
    x.send(6, 0, 1, 0, 0, false);
    due.is("clear()", x.clear(), 2);
    due.is("count(3)", x.count(3), 0);
    due.is("count(4)", x.count(4), 0);
    due.is("count(5)", x.count(5), 0);
    due.is("sent(0, 0)", x.sent(0, 0), -1);
    due.is("lines stay", x.count(2), 3);
    due.is("blocks stay", x.at(0, 0), 4);
    due.is("clear() again", x.clear(), 0);
  }

  private static void rightOfEachAsk() {
    SumsToAll x = full(2);
    due.is("right(-1, 0)", x.right(-1, 0), 2);
    due.is("right(5, 0)", x.right(5, 0), 2);
    due.is("right(0, -1)", x.right(0, -1), 2);
    due.is("right(0, 2)", x.right(0, 2), 2);
    int[] empty = {-101, -1, -1, -2, -2};
    for (int ask = 0; ask < 5; ask++) {
      due.is("no plan, ask " + ask, x.right(ask, 0), empty[ask]);
    }
    x.send(0, 0, 1, 1, 0, false);
    x.send(0, 1, 0, 0, 1, false);
    due.is("a turn", x.right(4, 0), 1);
    due.is("a turn, other root", x.right(4, 1), 1);
    due.is("is no gather", x.right(3, 0), -2);
    x.clear();
    x.send(0, 0, 1, 0, 0, false);
    x.send(0, 1, 0, 1, 1, false);
    due.is("a gather", x.right(3, 1), 1);
    due.is("is no turn", x.right(4, 1), -2);
    due.is("is no spread", x.right(0, 0), -2);
    due.is("nor one of the other", x.right(0, 1), -1);
  }

  private static void rightOfSums() {
    SumsToAll x = full(2);
    x.send(0, 0, 1, 0, 0, true);
    x.send(0, 0, 1, 1, 1, true);
    due.is("to one", x.right(1, 1), 1);
    due.is("not to the other", x.right(1, 0), -1);
    due.is("not to all", x.right(2, 0), -1);
    x.send(1, 1, 0, 0, 0, false);
    x.send(1, 1, 0, 1, 1, false);
    due.is("to all", x.right(2, 0), 1);
    due.is("to one too", x.right(1, 0), 1);
    x.send(2, 0, 1, 1, 1, false);
    due.is("the same put again", x.right(2, 1), 1);
    x.send(3, 0, 1, 1, 1, true);
    due.is("twice in the sum", x.right(2, 1), -102);
    x.clear();
    for (int step = 0; step < 64; step++) {
      x.send(step, step & 1, 1 - (step & 1), 0, 0, true);
    }
    due.is("far more than twice", x.right(1, 0), -1);
    x.clear();
    x.send(0, 0, 1, 0, 0, true);
    x.send(0, 0, 1, 0, 1, true);
    due.is("a sum of unlike blocks", x.right(1, 1), -102);
  }

  /** Once twice in a sum, a sign stays so: where the sum is put, and when more is added. */
  private static void rightOfDoubledSums() {
    SumsToAll x = full(2);
    x.send(0, 0, 1, 0, 0, true);
    x.send(1, 0, 1, 0, 0, true);
    x.send(2, 1, 0, 0, 0, false);
    due.is("put", x.right(2, 0), -1);
    x = full(3);
    x.send(0, 0, 1, 0, 0, true);
    x.send(1, 0, 1, 0, 0, true);
    x.send(2, 2, 1, 0, 0, true);
    due.is("added to", x.right(1, 1), -101);
  }

  private static void rightOfOtherBlocks() {
    SumsToAll x = full(2);
    x.build(0, 1, 0);
    due.is("to one", x.right(1, 0), 1);
    x.send(5, 0, 1, 0, 0, false);
    x.send(5, 0, 1, 0, 1, true);
    due.is("of the other one's: anything", x.right(1, 0), 1);
    x.send(6, 0, 1, 2, 7, false);
    due.is("but blocks from m on stay", x.right(1, 0), -108);
    x.send(6, 0, 1, 3, 2, false);
    due.is("block m too", x.right(1, 0), -103);
    x.build(0, 1, 1);
    x.send(0, 0, 1, 0, 9, true);
    due.is("the very first sign in a sum too many", x.right(1, 1), -110);
    x.clear();
    x.build(0, 0, 0);
    x.send(5, 0, 1, 15, 15, true);
    due.is("the last block stays", x.right(0, 0), -116);
    x.clear();
    x.send(0, 0, 1, 4, 0, false);
    x.send(1, 0, 1, 0, 0, false);
    x.send(1, 0, 1, 1, 1, false);
    x.send(2, 1, 0, 0, 0, false);
    due.is("the root's put again", x.right(0, 0), 1);
  }

  private static void rightAmongTheLost() {
    SumsToAll x = full(16);
    for (int host = 0; host < 16; host++) {
      x.live(host, host % 5 == 2 || host == 15);
    }
    due.is("2, 7, 12, 15 are live", x.count(1), 4);
    due.is("no root", x.right(0, 3), 2);
    due.is("no spread", x.right(0, 2), -701);
    due.is("no sum", x.right(2, 7), -201);
    due.is("gather", x.build(2, 3, 15), 2);
    due.is("right", x.right(3, 15), 1);
    x.send(2, 15, 12, 3, 4, false);
    due.is("block 4 stays", x.right(3, 15), -1205);
    due.is("turn", x.build(3, 4, 7), 4);
    due.is("right", x.right(4, 2), 1);
    x.send(9, 7, 15, 1, 3, false);
    due.is("block 3 of host 15", x.right(4, 2), -1504);
  }

  private static void runs() {
    SumsToAll x = full(3);
    x.set(0, 0, 10);
    x.set(1, 0, 20);
    x.set(2, 0, 30);
    x.send(0, 0, 1, 0, 0, false);
    x.send(0, 1, 2, 0, 0, true);
    x.send(0, 2, 0, 0, 5, false);
    x.send(4, 1, 0, 0, 0, true);
    due.is("run()", x.run(), 5);
    due.is("what was ahead: at(1, 0)", x.at(1, 0), 10);
    due.is("what was ahead: at(2, 0)", x.at(2, 0), 50);
    due.is("what was ahead: at(0, 5)", x.at(0, 5), 30);
    due.is("a later step: at(0, 0)", x.at(0, 0), 20);
    due.is("the plan stays", x.count(3), 4);
    due.is("run() again", x.run(), 5);
    due.is("at(2, 0)", x.at(2, 0), 60);
    due.is("at(0, 0)", x.at(0, 0), 40);
    x.set(0, 0, Integer.MAX_VALUE);
    x.set(1, 0, Integer.MAX_VALUE);
    x.clear();
    x.send(0, 0, 1, 0, 0, true);
    x.run();
    due.is("as ints do", x.at(1, 0), -2);
    due.is("right() runs nothing", x.right(0, 0), -1 - 100);
    due.is("at(1, 0)", x.at(1, 0), -2);
  }
}
