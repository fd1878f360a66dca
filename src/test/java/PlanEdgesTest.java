import java.util.List;

/** The edges of term 2 and of promises 11 to 17: a sentence of the document with a bound, a method of the test. */
public final class PlanEdgesTest {
  private static final Due due = new Due();
  private static final List<Refusals> everywhere = Houses.all(due);
  private static final Refusals worn = new Refusals(due, "worn", Houses::worn);
  private static final Refusals full = new Refusals(due, "full", Houses::full);
  private static final int LEAST = Houses.LEAST;
  private static final int MOST = Houses.MOST;

  public static void main(String[] args) {
    clearOfNoneOneAndAll();
    sendInSteps0To63();
    sendOfBlocks0To15();
    sendRefusesOthers();
    sendRefusesTheLost();
    sendNeedsALine();
    noHostSendsToTwo();
    noHostHasFromTwo();
    noBlockComesByTwo();
    whatAStepMayHave();
    atMost1200();
    sentRefusesNoneSuch();
    sentOfTheFirstAndTheLast();
    sentInOrder();
    rightRefusesNoSuchAskOrRoot();
    rightOfAnEmptyPlan();
    rightOfOneAlone();
    rightTellsTheFirstHostThenBlock();
    rightTellsTheVeryLast();
    rightOfTheLastBlockAsked();
    rightOfTheFirstBlockNotAsked();
    rightOfToOneLeavesOthersFree();
    rightOfASignJustOnce();
    rightOfASignCountedAround();
    rightOfABlockPutAgain();
    rightLooksAtSignsNotNumbers();
    runOfAnEmptyPlan();
    runAnswersTheSteps();
    runTakesWhatWasAhead();
    runSumsAsIntsDo();
    runOfEachWaySumsAsIntsDo();
    runLeavesAllElse();
    ticksOfNothing();
    ticksOfTheLeastAndTheMost();
    ticksOfTheLongestLetter();
    ticksOfStepsLeftOut();
    freelyRefusesNoneSuchAndLost();
    freelyWithoutLetters();
    freelyBeginsAtTheGreaterTime();
    freelyReckonsAheadOfTheStep();
    freelyOfTheMost();
    allOfTheCallsOfAnObject();
    due.end();
  }

  // Promise 11

  private static void clearOfNoneOneAndAll() {
    SumsToAll x = Houses.joined(2);
    due.is("clear() of none", x.clear(), 0);
    x.send(63, 0, 1, 0, 0, false);
    due.is("clear() of one", x.clear(), 1);
    due.is("clear() again", x.clear(), 0);
    for (int what = 3; what < 6; what++) {
      due.is("count(" + what + ")", x.count(what), 0);
    }
    due.is("sent(0, 0)", x.sent(0, 0), -1);
    due.is("run()", x.run(), 0);
    due.is("clear() of 1199", Houses.nearlyFull().clear(), 1199);
    SumsToAll y = Houses.full();
    due.is("clear() of 1200", y.clear(), 1200);
    due.is("there is room again", y.send(53, 0, 1, 15, 15, false), 1);
    new Refusals(due, "without a plan", Houses::lastOne).is("clear()", SumsToAll::clear, 0);
    SumsToAll z = Houses.worn();
    due.is("clear() of a worn house", z.clear(), 4);
    due.is("its lines stay", z.count(2), 9);
    due.is("its lost one is lost", z.count(1), 4);
    due.is("its late ones are late", z.freely(4), 29);
    due.is("its blocks stay", z.at(4, 15), 4016);
  }

  // Promise 12

  private static void sendInSteps0To63() {
    for (int step = 0; step < 64; step++) {
      SumsToAll x = Houses.joined(2);
      due.is("send in step " + step, x.send(step, 0, 1, 0, 0, false), 1);
      due.is("its step", x.sent(0, 0), step);
    }
    for (Refusals r : List.of(worn, full)) {
      for (int step : new int[] {-1, -2, 64, 65, 128, 1 << 15, LEAST, MOST}) {
        r.none("send in step " + step, x -> x.send(step, 0, 1, 0, 0, false));
      }
    }
  }

  private static void sendOfBlocks0To15() {
    SumsToAll x = Houses.joined(2);
    for (int block = 0; block < 16; block++) {
      due.is("send of block " + block, x.send(0, 0, 1, block, 15 - block, false), block + 1);
    }
    for (int block = 0; block < 16; block++) {
      due.is("in order of the block there", x.sent(block, 4), block);
      due.is("of its block", x.sent(block, 3), 15 - block);
    }
    for (int block : new int[] {-1, -2, 16, 17, 32, LEAST, MOST}) {
      worn.none("send of block " + block, y -> y.send(0, 0, 1, block, 0, false));
      worn.none("send to block " + block, y -> y.send(0, 0, 1, 0, block, true));
      worn.none("send of and to block " + block, y -> y.send(0, 0, 1, block, block, true));
    }
  }

  private static void sendRefusesOthers() {
    for (int host : new int[] {-1, -2, 5, 6, 15, 16, LEAST, MOST}) {
      worn.none("send from " + host, x -> x.send(0, host, 1, 0, 0, false));
      worn.none("send to " + host, x -> x.send(0, 1, host, 0, 0, false));
    }
    for (int host = 0; host < 5; host++) {
      int one = host;
      worn.none("send from " + host + " to itself", x -> x.send(0, one, one, 0, 1, false));
    }
    SumsToAll x = Houses.joined(16);
    due.is("from the first to the last", x.send(0, 0, 15, 0, 0, false), 1);
    due.is("from the last to the first", x.send(0, 15, 0, 0, 0, false), 2);
  }

  private static void sendRefusesTheLost() {
    worn.none("send from a lost one", x -> x.send(0, 3, 0, 0, 0, false));
    worn.none("send to a lost one", x -> x.send(0, 0, 3, 0, 0, false));
    SumsToAll x = Houses.worn();
    x.live(3, true);
    due.is("live again: from it", x.send(0, 3, 0, 0, 0, false), 1);
    due.is("live again: to it", x.send(0, 0, 3, 0, 0, false), 2);
    Refusals alone = new Refusals(due, "last one", Houses::lastOne);
    alone.none("send from the last one", y -> y.send(0, 1, 0, 0, 0, false));
    alone.none("send to the last one", y -> y.send(0, 2, 1, 0, 0, false));
  }

  private static void sendNeedsALine() {
    worn.none("send from 2 to 4", x -> x.send(0, 2, 4, 0, 0, false));
    worn.none("send from 4 to 2", x -> x.send(0, 4, 2, 0, 0, true));
    new Refusals(due, "new", SumsToAll::new).none("send from 0 to 1", x -> x.send(0, 0, 1, 0, 0, false));
    SumsToAll x = Houses.worn();
    x.line(4, 2, 0, 1);
    due.is("with a line", x.send(0, 2, 4, 0, 0, false), 1);
  }

  // Term 2: what no plan may have

  private static void noHostSendsToTwo() {
    worn.none("0 sends to 1 and to 2", x -> x.send(2, 0, 2, 9, 9, false));
    worn.none("0 sends to 1 and to 4", x -> x.send(2, 0, 4, 9, 9, true));
    worn.none("1 sends to 2 and to 0", x -> x.send(2, 1, 0, 9, 9, true));
    SumsToAll x = Houses.worn();
    due.is("a step ahead", x.send(1, 0, 2, 9, 9, false), 5);
    due.is("a step behind", x.send(3, 0, 2, 9, 9, false), 6);
    due.is("to the same one", x.send(2, 0, 1, 9, 9, false), 7);
  }

  private static void noHostHasFromTwo() {
    worn.none("1 has from 0 and from 2", x -> x.send(2, 2, 1, 9, 9, false));
    worn.none("1 has from 0 and from 4", x -> x.send(2, 4, 1, 9, 9, true));
    worn.none("2 has from 1 and from 0", x -> x.send(2, 0, 2, 9, 9, true));
    SumsToAll x = Houses.worn();
    due.is("a step ahead", x.send(1, 2, 1, 9, 9, false), 5);
    due.is("a step behind", x.send(3, 2, 1, 9, 9, false), 6);
    due.is("from the same one", x.send(2, 1, 2, 9, 9, false), 7);
  }

  private static void noBlockComesByTwo() {
    worn.none("block 3 by two, both added", x -> x.send(2, 0, 1, 7, 3, true));
    worn.none("block 3 by two, one put", x -> x.send(2, 0, 1, 3, 3, false));
    worn.none("the same send again", x -> x.send(2, 0, 1, 3, 3, true));
    worn.none("block 4 by two, one added", x -> x.send(2, 0, 1, 4, 4, true));
    worn.none("block 15 by two", x -> x.send(9, 4, 0, 0, 15, false));
    SumsToAll x = Houses.worn();
    due.is("a block to two blocks", x.send(2, 0, 1, 3, 5, true), 5);
    due.is("the block in a step ahead", x.send(1, 0, 1, 3, 3, true), 6);
    due.is("the block in a step behind", x.send(3, 0, 1, 3, 3, true), 7);
    due.is("block 3 of another one", x.send(2, 1, 2, 3, 3, true), 8);
  }

  private static void whatAStepMayHave() {
    SumsToAll x = Houses.joined(16);
    for (int host = 0; host < 16; host++) {
      due.is("all in a ring", x.send(5, host, (host + 1) % 16, 0, 0, true), host + 1);
    }
    SumsToAll y = Houses.joined(4);
    due.is("two to one another", y.send(5, 0, 3, 0, 0, true), 1);
    due.is("two to one another", y.send(5, 3, 0, 0, 0, true), 2);
    due.is("beside two others", y.send(5, 1, 2, 0, 0, true), 3);
    for (int block = 1; block < 16; block++) {
      due.is("all blocks by one letter", y.send(5, 0, 3, 7, block, false), 3 + block);
    }
  }

  private static void atMost1200() {
    SumsToAll x = Houses.nearlyFull();
    due.is("1199 are there", x.count(3), 1199);
    due.is("the 1200th", x.send(53, 0, 1, 15, 15, true), 1200);
    due.is("1200 are there", x.count(3), 1200);
    full.none("the 1201st behind all", y -> y.send(63, 4, 5, 0, 0, false));
    full.none("the 1201st ahead of all but step 0's", y -> y.send(4, 0, 1, 0, 0, false));
    full.none("the 1201st in a step without sends", y -> y.send(30, 9, 8, 15, 15, true));
    SumsToAll y = Houses.full();
    due.is("a way in place of 1200", y.build(0, 0, 0), 15);
    due.is("there is room again", y.send(63, 4, 5, 0, 0, false), 241);
    SumsToAll z = Houses.full();
    z.build(2, 2, 7);
    due.is("the most sends of a way", z.count(3), 1024);
    due.is("leave room", z.send(4, 4, 5, 0, 0, false), 1025);
  }

  // Promise 13

  private static void sentRefusesNoneSuch() {
    for (int what = 0; what < 6; what++) {
      int one = what;
      for (int i : new int[] {-1, -2, 4, 5, 1199, LEAST, MOST}) {
        worn.none("sent(" + i + ", " + one + ") of 4", x -> x.sent(i, one));
      }
      for (int i : new int[] {-1, 1200, 1201}) {
        due.is("sent(" + i + ", " + one + ") of 1200", Houses.full().sent(i, one), -1);
      }
      due.is("sent(1199, " + one + ") of 1199", Houses.nearlyFull().sent(1199, one), -1);
      due.is("sent(0, " + one + ") of none", Houses.lastOne().sent(0, one), -1);
    }
    for (int what : new int[] {-1, -2, 6, 7, LEAST, MOST}) {
      worn.none("sent(0, " + what + ")", x -> x.sent(0, what));
      worn.none("sent(3, " + what + ")", x -> x.sent(3, what));
      worn.none("sent(4, " + what + ")", x -> x.sent(4, what));
    }
  }

  private static void sentOfTheFirstAndTheLast() {
    tells(Houses.worn(), 0, 2, 0, 1, 3, 3, 1);
    tells(Houses.worn(), 3, 9, 4, 0, 15, 15, 0);
    tells(Houses.full(), 0, 0, 0, 1, 0, 0, 1);
    tells(Houses.full(), 1199, 63, 0, 1, 15, 15, 0);
    tells(Houses.nearlyFull(), 1198, 63, 0, 1, 15, 15, 0);
    SumsToAll x = Houses.joined(16);
    x.send(63, 15, 14, 15, 15, true);
    tells(x, 0, 63, 15, 14, 15, 15, 1);
    x.send(0, 0, 1, 0, 0, false);
    tells(x, 0, 0, 0, 1, 0, 0, 0);
    tells(x, 1, 63, 15, 14, 15, 15, 1);
  }

  private static void tells(SumsToAll x, int i, int... want) {
    for (int what = 0; what < 6; what++) {
      due.is("sent(" + i + ", " + what + ")", x.sent(i, what), want[what]);
    }
  }

  /** By STEP, then from, then BLOCK there: not by to, BLOCK or ADDED, nor as they were told. */
  private static void sentInOrder() {
    int[][] order = {{0, 14, 0, 15, 15, 1}, {0, 15, 1, 0, 0, 0}, {1, 0, 15, 15, 0, 1}, {1, 0, 15, 0, 1, 0},
        {1, 0, 15, 7, 15, 1}, {1, 1, 2, 0, 0, 0}, {62, 9, 3, 4, 4, 0}, {63, 2, 9, 1, 8, 1}, {63, 9, 2, 0, 0, 1}};
    int n = order.length;
    for (int stride : new int[] {1, 2, 4, 5, 7, 8}) {
      SumsToAll x = Houses.joined(16);
      for (int k = 0; k < n; k++) {
        int[] s = order[(k * stride + 3) % n];
        due.is("send", x.send(s[0], s[1], s[2], s[3], s[4], s[5] == 1), k + 1);
      }
      for (int i = 0; i < n; i++) {
        tells(x, i, order[i]);
      }
    }
  }

  // Promise 14

  private static void rightRefusesNoSuchAskOrRoot() {
    for (Refusals r : everywhere) {
      for (int ask : new int[] {-1, -2, 5, 6, LEAST, MOST}) {
        r.is("right(" + ask + ", 1)", x -> x.right(ask, 1), 2);
      }
      for (int ask = 0; ask < 5; ask++) {
        int one = ask;
        for (int root : new int[] {-1, 16, LEAST, MOST}) {
          r.is("right(" + ask + ", " + root + ")", x -> x.right(one, root), 2);
        }
      }
    }
    for (int ask = 0; ask < 5; ask++) {
      int one = ask;
      worn.is("right(" + ask + ", 5)", x -> x.right(one, 5), 2);
      worn.is("right(" + ask + ", 3), 3 being lost", x -> x.right(one, 3), 2);
      due.is("right(" + ask + ", 4)", Houses.worn().right(ask, 4) < 0, true);
      due.is("right(" + ask + ", 0)", Houses.worn().right(ask, 0) < 0, true);
    }
  }

  /** Of the hosts whose first asked block is not there: spread's is not the root, gather's is not its own. */
  private static void rightOfAnEmptyPlan() {
    for (int m = 2; m <= 16; m++) {
      SumsToAll x = Houses.joined(m);
      due.is("spread from 0 of " + m, x.right(0, 0), -101);
      due.is("spread from the last of " + m, x.right(0, m - 1), -1);
      due.is("to 0 of " + m, x.right(1, 0), -1);
      due.is("to the last of " + m, x.right(1, m - 1), -100 * (m - 1) - 1);
      due.is("to all of " + m, x.right(2, m - 1), -1);
      due.is("gather of " + m, x.right(3, m - 1), -2);
      due.is("turn of " + m, x.right(4, m - 1), -2);
    }
  }

  private static void rightOfOneAlone() {
    SumsToAll x = Houses.lastOne();
    for (int ask = 0; ask < 5; ask++) {
      due.is("of one alone: right(" + ask + ", 1)", x.right(ask, 1), 1);
    }
  }

  private static void rightTellsTheFirstHostThenBlock() {
    SumsToAll x = Houses.joined(3);
    x.send(0, 0, 2, 0, 3, false);
    due.is("spread: 1's block 0 is ahead of 2's block 3", x.right(0, 0), -101);
    x.build(3, 0, 0);
    x.send(5, 0, 2, 0, 3, false);
    due.is("spread: 2's block 3 alone", x.right(0, 0), -204);
    x.send(6, 0, 1, 0, 15, false);
    due.is("1's last block is ahead of 2's", x.right(0, 0), -116);
    x.send(7, 2, 0, 5, 14, true);
    due.is("0's block 14 is ahead of 1's", x.right(0, 0), -15);
    x.send(7, 2, 0, 5, 13, true);
    due.is("0's block 13 is ahead of its block 14", x.right(0, 0), -14);
    x.send(8, 1, 0, 5, 0, true);
    due.is("0's block 0 is ahead of all", x.right(0, 0), -1);
  }

  private static void rightTellsTheVeryLast() {
    SumsToAll x = Houses.joined(16);
    x.build(0, 3, 0);
    due.is("a gather", x.right(3, 0), 1);
    x.send(15, 14, 15, 14, 15, false);
    due.is("but the last block of the last one", x.right(3, 0), -1516);
    x.build(0, 3, 0);
    x.send(15, 15, 14, 14, 15, false);
    due.is("but the last block of the one ahead of it", x.right(3, 0), -1416);
  }

  private static void rightOfTheLastBlockAsked() {
    for (int m = 2; m <= 16; m++) {
      SumsToAll x = Houses.joined(m);
      for (int host = 1; host < m; host++) {
        for (int block = 0; block < m - 1; block++) {
          x.send(host, host, 0, block, block, true);
        }
      }
      due.is("to one of " + m + ", without the last block asked", x.right(1, 0), -m);
      for (int host = 1; host < m; host++) {
        x.send(host, host, 0, m - 1, m - 1, true);
      }
      due.is("to one of " + m + ", with the last block asked", x.right(1, 0), 1);
    }
    for (int m = 2; m <= 16; m++) {
      SumsToAll x = Houses.joined(m);
      x.build(3, 0, 0);
      x.send(62, 1, 0, m - 1, m - 1, true);
      due.is("spread of " + m + ": the last block asked is spoilt", x.right(0, 0), -m);
    }
  }

  /** Blocks from m on stay: put or added, of any host, for any ask. */
  private static void rightOfTheFirstBlockNotAsked() {
    int[][] ways = {{3, 0}, {3, 1}, {1, 2}, {3, 3}, {3, 4}};
    for (int m = 2; m < 16; m++) {
      for (int[] w : ways) {
        for (boolean adds : new boolean[] {true, false}) {
          SumsToAll x = Houses.joinedWithLive(16, m);
          x.build(w[0], w[1], 0);
          due.is("ask " + w[1] + " of " + m, x.right(w[1], 0), 1);
          x.send(63, 0, 1, m, 15, adds);
          due.is("ask " + w[1] + " of " + m + ": block 15 stays", x.right(w[1], 0), -116);
          x.send(62, 0, 1, m - 1, m, adds);
          due.is("ask " + w[1] + " of " + m + ": block m stays", x.right(w[1], 0), -100 - m - 1);
          x.send(61, 1, 0, m, m, adds);
          due.is("ask " + w[1] + " of " + m + ": the root's too", x.right(w[1], 0), -m - 1);
        }
      }
    }
  }

  private static void rightOfToOneLeavesOthersFree() {
    for (int m = 2; m <= 16; m++) {
      SumsToAll x = Houses.joined(m);
      x.build(3, 1, 0);
      due.is("to one of " + m, x.right(1, 0), 1);
      x.send(63, 0, 1, 0, m - 1, true);
      due.is("block m - 1 of another one: anything", x.right(1, 0), 1);
      x.send(62, 0, 1, m - 1, 0, false);
      due.is("block 0 of another one: anything", x.right(1, 0), 1);
      x.send(61, 1, 0, 0, m - 1, false);
      due.is("block m - 1 of the root: not", x.right(1, 0), -m);
    }
  }

  private static void rightOfASignJustOnce() {
    SumsToAll x = Houses.joined(2);
    x.send(0, 0, 1, 1, 1, true);
    due.is("not in the sum", x.right(1, 1), -101);
    x.send(0, 0, 1, 0, 0, true);
    due.is("once in the sum", x.right(1, 1), 1);
    x.send(1, 0, 1, 0, 0, true);
    due.is("twice in the sum", x.right(1, 1), -101);
    x.send(2, 0, 1, 0, 0, true);
    due.is("three times in the sum", x.right(1, 1), -101);
    SumsToAll y = Houses.joined(2);
    y.send(0, 0, 1, 0, 0, true);
    y.send(0, 0, 1, 1, 1, true);
    y.send(1, 1, 0, 0, 0, true);
    y.send(1, 1, 0, 1, 1, true);
    due.is("the root's own once", y.right(1, 1), 1);
    due.is("the root's own twice", y.right(1, 0), -1);
    y.clear();
    y.send(0, 0, 1, 0, 0, true);
    y.send(1, 0, 1, 0, 0, true);
    y.send(2, 1, 0, 0, 0, false);
    due.is("twice in the sum that is put", y.right(2, 0), -1);
    SumsToAll z = Houses.joined(3);
    z.send(0, 1, 0, 0, 0, true);
    z.send(1, 1, 0, 0, 0, true);
    z.send(2, 2, 0, 0, 0, true);
    due.is("twice in the sum, then another once", z.right(1, 0), -1);
    z.build(3, 1, 0);
    z.send(9, 1, 0, 5, 2, true);
    due.is("another block's sign in the sum", z.right(1, 0), -3);
  }

  /**
   * A sign is in the sum once, and 2 to the power of so many times more by doublings between two
   * hosts whose blocks are free: a count in 8, 16 or 32 bits would come round to once.
   */
  private static void rightOfASignCountedAround() {
    for (int doublings : new int[] {0, 1, 7, 8, 15, 16, 31, 32, 33, 48, 58}) {
      SumsToAll x = Houses.joined(3);
      x.build(3, 1, 2);
      due.is("to one", x.right(1, 2), 1);
      x.send(2, 0, 1, 0, 1, false);
      x.send(3, 1, 0, 1, 1, false);
      for (int i = 0; i < doublings; i++) {
        x.send(4 + i, 0, 1, 1, 1, true);
        x.send(4 + i, 1, 0, 1, 1, true);
      }
      due.is("to one, whatever the others have", x.right(1, 2), 1);
      x.send(4 + doublings, 0, 2, 1, 0, true);
      due.is("a sign once and 2 to the " + doublings + " times more", x.right(1, 2), -201);
      x.send(5 + doublings, 0, 2, 1, 15, true);
      due.is("as often in a block that stays", x.right(1, 2), -201);
    }
  }

  private static void rightOfABlockPutAgain() {
    SumsToAll x = Houses.joined(2);
    x.send(0, 0, 1, 9, 0, false);
    x.send(1, 1, 0, 0, 9, false);
    x.send(2, 0, 1, 0, 0, false);
    x.send(2, 0, 1, 1, 1, false);
    due.is("0's block 9 is put again, as it was", x.right(0, 0), 1);
    x.send(3, 1, 0, 9, 9, false);
    due.is("another's in its place", x.right(0, 0), -10);
    x.clear();
    x.build(0, 0, 0);
    x.send(1, 1, 0, 0, 0, false);
    x.send(1, 1, 0, 1, 1, false);
    due.is("the root's own come back to it", x.right(0, 0), 1);
    x.send(2, 1, 0, 1, 1, true);
    due.is("added they are twice there", x.right(0, 0), -2);
    x.clear();
    x.build(3, 4, 0);
    x.send(1, 0, 1, 0, 5, false);
    due.is("a turn, 1's block 5 overwritten", x.right(4, 0), -106);
  }

  private static void rightLooksAtSignsNotNumbers() {
    SumsToAll x = Houses.joined(4);
    due.is("all blocks are 0, but none is as asked", x.right(2, 0), -1);
    due.is("all blocks are 0, but none is as asked", x.right(0, 0), -101);
    x.build(1, 2, 3);
    for (int host = 0; host < 4; host++) {
      x.set(host, 0, Houses.MOST);
    }
    due.is("a sum that wraps around is right", x.right(2, 0), 1);
    x.run();
    due.is("after it was done too", x.right(2, 0), 1);
    due.is("right() has done nothing", x.at(0, 0), -4);
  }

  // Promise 15

  private static void runOfAnEmptyPlan() {
    for (Refusals r : List.of(new Refusals(due, "new", SumsToAll::new), new Refusals(due, "last", Houses::lastOne))) {
      r.is("run() of no plan", SumsToAll::run, 0);
    }
  }

  private static void runAnswersTheSteps() {
    for (int step : new int[] {0, 1, 62, 63}) {
      SumsToAll x = Houses.joined(2);
      x.set(0, 0, 5);
      x.send(step, 0, 1, 0, 15, false);
      due.is("run() of one send in step " + step, x.run(), step + 1);
      due.is("it is done", x.at(1, 15), 5);
      due.is("the plan stays", x.count(3), 1);
    }
    due.is("run() of 1200", Houses.full().run(), 64);
    due.is("run() in a worn house", Houses.worn().run(), 10);
  }

  private static void runTakesWhatWasAhead() {
    SumsToAll x = Houses.joined(16);
    for (int host = 0; host < 16; host++) {
      x.set(host, 0, 100 + host);
      x.send(0, host, (host + 1) % 16, 0, 0, false);
    }
    x.run();
    for (int host = 0; host < 16; host++) {
      due.is("all moved by one: at(" + host + ", 0)", x.at(host, 0), 100 + (host + 15) % 16);
    }
    SumsToAll y = Houses.joined(2);
    y.set(0, 0, 3);
    y.set(1, 0, 4);
    y.send(0, 0, 1, 0, 0, true);
    y.send(0, 1, 0, 0, 0, true);
    y.run();
    due.is("both added what was ahead", y.at(0, 0), 7);
    due.is("both added what was ahead", y.at(1, 0), 7);
    y.send(0, 0, 1, 0, 1, false);
    y.send(0, 1, 0, 0, 1, false);
    y.send(1, 0, 1, 1, 2, false);
    y.run();
    due.is("a block that changes in the step is sent as it was", y.at(1, 1), 7);
    due.is("the next step takes the new one", y.at(1, 2), 7);
    due.is("and all is added again", y.at(0, 0), 14);
  }

  private static void runSumsAsIntsDo() {
    int[][] sums = {{MOST, 1, LEAST}, {MOST, MOST, -2}, {LEAST, LEAST, 0}, {LEAST, -1, MOST}, {MOST, LEAST, -1},
        {1 << 30, 1 << 30, LEAST}, {0, LEAST, LEAST}};
    for (int[] s : sums) {
      SumsToAll x = Houses.joined(2);
      x.set(0, 0, s[0]);
      x.set(1, 15, s[1]);
      x.send(0, 0, 1, 0, 15, true);
      x.run();
      due.is(s[1] + " and " + s[0] + " added", x.at(1, 15), s[2]);
      due.is("the sender's stays", x.at(0, 0), s[0]);
      x.clear();
      x.send(0, 0, 1, 0, 15, false);
      x.run();
      due.is("put, nothing is added", x.at(1, 15), s[0]);
    }
  }

  private static void runOfEachWaySumsAsIntsDo() {
    int[][] ways = {{0, 1}, {0, 2}, {1, 1}, {1, 2}, {2, 2}, {3, 1}};
    for (int m : new int[] {2, 4, 16}) {
      for (int[] w : ways) {
        SumsToAll x = Houses.joined(m);
        for (int host = 0; host < m; host++) {
          x.set(host, 0, MOST);
          x.set(host, m - 1, LEAST + host);
        }
        x.build(w[0], w[1], m - 1);
        x.run();
        due.is("way " + w[0] + ", ask " + w[1] + ": " + m + " of the greatest", x.at(m - 1, 0), -m);
        due.is("way " + w[0] + ", ask " + w[1] + ": " + m + " of the least", x.at(m - 1, m - 1), m * (m - 1) / 2);
      }
    }
  }

  private static void runLeavesAllElse() {
    SumsToAll x = Houses.worn();
    x.run();
    int[][] changed = {{1, 3, 1004 + 4}, {1, 4, 1}, {2, 0, 2001 + 1006}, {0, 15, 4016}};
    for (int host = 0; host < 5; host++) {
      for (int block = 0; block < 16; block++) {
        int want = 1000 * host + block + 1;
        for (int[] c : changed) {
          want = c[0] == host && c[1] == block ? c[2] : want;
        }
        due.is("at(" + host + ", " + block + ") behind run()", x.at(host, block), want);
      }
    }
    due.is("the sends stay", x.count(3), 4);
    due.is("the lines stay", x.count(2), 9);
    due.is("run() is no tick", x.freely(3), -1);
  }

  // Promise 16

  private static void ticksOfNothing() {
    due.is("new ticks()", new SumsToAll().ticks(), 0);
    due.is("ticks() of no plan", Houses.lastOne().ticks(), 0);
    SumsToAll x = Houses.full();
    x.clear();
    due.is("ticks() behind clear()", x.ticks(), 0);
  }

  private static void ticksOfTheLeastAndTheMost() {
    SumsToAll x = new SumsToAll();
    x.line(0, 1, 0, 1);
    x.send(63, 0, 1, 0, 0, false);
    due.is("the least letter", x.ticks(), 1);
    SumsToAll y = Houses.joined(16);
    y.net(1, 1000, 1000);
    y.build(2, 2, 0);
    for (int i = 0; i < 176; i++) {
      y.send(4 + i / 16, 0, 1, i % 16, i % 16, false);
    }
    due.is("15 of the longest letters", y.ticks(), 15 * 17000);
    for (int step = 0; step < 64; step++) {
      for (int block = 0; block < 2; block++) {
        x.send(step, 1, 0, block, block, true);
      }
    }
    due.is("64 letters of two", x.ticks(), 64 * 2);
  }

  private static void ticksOfTheLongestLetter() {
    SumsToAll x = new SumsToAll();
    x.hosts(6);
    x.line(0, 1, 9, 1);
    x.line(2, 3, 8, 1);
    x.line(4, 5, 0, 10);
    x.send(0, 2, 3, 0, 0, false);
    due.is("9 ticks", x.ticks(), 9);
    x.send(0, 0, 1, 0, 0, false);
    due.is("10 ticks beside 9", x.ticks(), 10);
    x.send(0, 2, 3, 1, 1, false);
    due.is("10 beside 10", x.ticks(), 10);
    x.send(0, 4, 5, 1, 1, false);
    due.is("10 beside 10 and 10", x.ticks(), 10);
    x.send(0, 2, 3, 2, 2, false);
    due.is("11 beside 10", x.ticks(), 11);
    x.send(0, 5, 4, 1, 1, false);
    due.is("one to another and back are two letters", x.ticks(), 11);
    x.send(0, 5, 4, 1, 2, false);
    due.is("a block twice is two blocks", x.ticks(), 20);
  }

  private static void ticksOfStepsLeftOut() {
    SumsToAll x = Houses.joined(2);
    x.send(0, 0, 1, 0, 0, false);
    x.send(63, 0, 1, 0, 0, false);
    due.is("62 steps without sends take nothing", x.ticks(), 22);
    due.is("but count", x.count(4), 64);
    due.is("freely too", x.freely(1), 22);
  }

  // Promise 17

  private static void freelyRefusesNoneSuchAndLost() {
    for (int host : new int[] {-1, -2, 3, 5, 6, 15, 16, LEAST, MOST}) {
      worn.none("freely(" + host + ")", x -> x.freely(host));
    }
    for (Refusals r : everywhere) {
      r.none("freely(-1)", x -> x.freely(-1));
      r.none("freely(16)", x -> x.freely(16));
    }
    due.is("freely(15) of sixteen", Houses.full().freely(15) > 0, true);
    SumsToAll x = Houses.worn();
    x.live(3, true);
    due.is("freely(3), 3 being live again", x.freely(3), 22);
  }

  private static void freelyWithoutLetters() {
    SumsToAll x = Houses.joined(3);
    x.late(0, 100000);
    x.late(1, 1);
    due.is("late by the most", x.freely(0), 100000);
    due.is("late by the least", x.freely(1), 1);
    due.is("not late", x.freely(2), 0);
    x.send(0, 1, 2, 0, 0, false);
    due.is("as it was, without letters", x.freely(0), 100000);
    due.is("with one", x.freely(1), 12);
  }

  private static void freelyBeginsAtTheGreaterTime() {
    int[][] lates = {{0, 0, 0}, {5, 4, 5}, {4, 5, 5}, {5, 5, 5}, {100000, 0, 100000}, {0, 100000, 100000}};
    for (int[] l : lates) {
      SumsToAll x = Houses.joined(2);
      x.late(0, l[0]);
      x.late(1, l[1]);
      x.send(0, 0, 1, 0, 0, false);
      due.is("the sender of " + l[0] + " to " + l[1], x.freely(0), l[2] + 11);
      due.is("the other of " + l[0] + " to " + l[1], x.freely(1), l[2] + 11);
    }
  }

  private static void freelyReckonsAheadOfTheStep() {
    SumsToAll x = Houses.joined(4);
    x.line(0, 1, 100, 1);
    for (int host = 0; host < 3; host++) {
      x.send(0, host, host + 1, 0, 0, false);
    }
    due.is("a chain in one step: 0", x.freely(0), 101);
    due.is("the latest end of its two letters: 1", x.freely(1), 101);
    due.is("not behind the one ahead of it: 2", x.freely(2), 11);
    due.is("not behind the one ahead of it: 3", x.freely(3), 11);
    x.send(1, 2, 1, 0, 0, false);
    due.is("the next step begins at the greater one", x.freely(2), 112);
    due.is("the next step begins at the greater one", x.freely(1), 112);
    due.is("others are not kept by it", x.freely(3), 11);
    due.is("in step all are", x.ticks(), 112);
  }

  private static void freelyOfTheMost() {
    SumsToAll x = new SumsToAll();
    x.line(0, 1, 1000, 1000);
    x.late(1, 100000);
    for (int step = 0; step < 64; step++) {
      for (int block = 0; block < 7; block++) {
        x.send(step, step % 2, 1 - step % 2, block, block, true);
      }
    }
    due.is("64 letters of 7 of the slowest line", x.ticks(), 64 * 8000);
    due.is("from the latest on: 0", x.freely(0), 100000 + 64 * 8000);
    due.is("from the latest on: 1", x.freely(1), 100000 + 64 * 8000);
  }

  // What it is

  /** The 512th call is answered as the first one. */
  private static void allOfTheCallsOfAnObject() {
    SumsToAll x = new SumsToAll();
    due.is("call 1", x.hosts(16), true);
    due.is("call 2", x.net(1, 1000, 1000), 120);
    due.is("call 3", x.build(2, 2, 15), 4);
    due.is("call 4", x.set(0, 15, 1), true);
    for (int call = 5; call < 508; call++) {
      if (call % 250 == 0) {
        due.is("call " + call, x.run(), 4);
      } else {
        due.is("call " + call, x.right(2, 15), 1);
      }
    }
    due.is("call 508", x.at(15, 15), 16);
    due.is("call 509", x.ticks(), 4 * 17000);
    due.is("call 510", x.send(4, 0, 1, 0, 0, true), 1025);
    due.is("call 511", x.right(2, 15), -101);
    due.is("call 512", x.clear(), 1025);
  }
}
