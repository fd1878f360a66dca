import java.util.List;

/** The edges of term 1 and of promises 1 to 9: a sentence of the document with a bound, a method of the test. */
public final class HouseEdgesTest {
  private static final Due due = new Due();
  private static final List<Refusals> everywhere = Houses.all(due);
  private static final Refusals worn = new Refusals(due, "worn", Houses::worn);
  private static final int LEAST = Houses.LEAST;
  private static final int MOST = Houses.MOST;

  public static void main(String[] args) {
    newHasTwoHosts();
    newHasNoLines();
    newHasNoPlan();
    hostsFromTwoToSixteen();
    hostsRefusesAnotherN();
    hostsTakesAllThatWas();
    hostsFewerAndMoreAgain();
    waitFromNoneToThousand();
    perFromOneToThousand();
    lineRefusesOtherPaces();
    lineRefusesNoSuchTwo();
    lineInPlaceOfTheOneThatIs();
    lineNoneWhereThereIsNone();
    lineBothWays();
    lineTakesTheSends();
    letterOfOneToSixteenBlocks();
    netRefusesOthers();
    netPaces();
    netRing();
    netAllWithAll();
    netRow();
    netOneBit();
    netLeavesOtherLines();
    netTakesTheSends();
    setAtTheEdges();
    setChangesOneBlock();
    setRefusesNoneSuch();
    atThrowsNoneSuch();
    liveRefusesNoneSuch();
    liveRefusesTheLastOne();
    liveOfEachHost();
    liveTakesTheSends();
    lateFromZeroToHundredThousand();
    lateRefusesOthers();
    countRefusesAnotherWhat();
    countOfTheEmptyAndTheFull();
    countOfSteps();
    countOfLetters();
    due.end();
  }

  // Promise 1

  private static void newHasTwoHosts() {
    SumsToAll x = new SumsToAll();
    due.is("new count(0)", x.count(0), 2);
    due.is("new count(1)", x.count(1), 2);
    for (int host = 0; host < 2; host++) {
      due.is("new freely: none is late", x.freely(host), 0);
      for (int block = 0; block < 16; block++) {
        due.is("new at(" + host + ", " + block + ")", x.at(host, block), 0);
      }
    }
    due.throwsNone("new at(2, 0)", x, 2, 0);
  }

  private static void newHasNoLines() {
    SumsToAll x = new SumsToAll();
    due.is("new count(2)", x.count(2), 0);
    due.is("new: 0 with 1", Look.line(x, 0, 1), "none");
  }

  private static void newHasNoPlan() {
    SumsToAll x = new SumsToAll();
    for (int what = 3; what < 6; what++) {
      due.is("new count(" + what + ")", x.count(what), 0);
    }
    due.is("new sent(0, 0)", x.sent(0, 0), -1);
    due.is("new clear()", x.clear(), 0);
  }

  // Promise 2

  private static void hostsFromTwoToSixteen() {
    for (int n = 2; n <= 16; n++) {
      SumsToAll x = new SumsToAll();
      due.is("hosts(" + n + ")", x.hosts(n), true);
      due.is("hosts(" + n + "): count(0)", x.count(0), n);
      due.is("hosts(" + n + "): count(1)", x.count(1), n);
      due.is("hosts(" + n + "): the last one's last block", x.at(n - 1, 15), 0);
      due.throwsNone("hosts(" + n + "): at(" + n + ", 0)", x, n, 0);
    }
  }

  private static void hostsRefusesAnotherN() {
    for (Refusals r : everywhere) {
      for (int n : new int[] {1, 0, -1, 17, 18, 32, LEAST, MOST}) {
        r.no("hosts(" + n + ")", x -> x.hosts(n));
      }
    }
  }

  private static void hostsTakesAllThatWas() {
    for (int n : new int[] {2, 5, 16}) {
      String fresh = Look.at(() -> {
        SumsToAll x = new SumsToAll();
        x.hosts(n);
        return x;
      });
      String again = Look.at(() -> {
        SumsToAll x = Houses.worn();
        x.hosts(n);
        return x;
      });
      due.is("a worn house after hosts(" + n + ") is as a new one", again.equals(fresh), true);
    }
    String fresh = Look.at(SumsToAll::new);
    String again = Look.at(() -> {
      SumsToAll x = Houses.full();
      x.hosts(2);
      return x;
    });
    due.is("a full house after hosts(2) is as a new one", again.equals(fresh), true);
  }

  /** What the hosts had that were gone meanwhile is gone too. */
  private static void hostsFewerAndMoreAgain() {
    SumsToAll x = Houses.joined(16);
    x.set(15, 15, 9);
    x.late(15, 9);
    x.live(14, false);
    x.hosts(2);
    x.hosts(16);
    due.is("at(15, 15)", x.at(15, 15), 0);
    due.is("freely(15)", x.freely(15), 0);
    due.is("freely(14)", x.freely(14), 0);
    due.is("count(2)", x.count(2), 0);
    due.is("14 with 15", Look.line(x, 14, 15), "none");
  }

  // Promise 3

  private static void waitFromNoneToThousand() {
    for (int wait : new int[] {0, 1, 999, 1000}) {
      SumsToAll x = new SumsToAll();
      due.is("line(0, 1, " + wait + ", 3)", x.line(0, 1, wait, 3), true);
      due.is("its pace", Look.line(x, 0, 1), wait + "+3");
    }
    SumsToAll x = Houses.joined(2);
    due.is("line(0, 1, NONE, 3)", x.line(0, 1, SumsToAll.NONE, 3), true);
    due.is("there is none then", Look.line(x, 0, 1), "none");
    due.is("there is none then", x.count(2), 0);
  }

  private static void perFromOneToThousand() {
    for (int per : new int[] {1, 2, 999, 1000}) {
      SumsToAll x = new SumsToAll();
      due.is("line(0, 1, 5, " + per + ")", x.line(0, 1, 5, per), true);
      due.is("its pace", Look.line(x, 0, 1), "5+" + per);
    }
    for (int per : new int[] {0, 1, 1000, 1001, -1, LEAST, MOST}) {
      SumsToAll x = Houses.joined(2);
      due.is("no line has no PER: line(0, 1, NONE, " + per + ")", x.line(0, 1, SumsToAll.NONE, per), true);
      due.is("there is none then", x.count(2), 0);
    }
  }

  private static void lineRefusesOtherPaces() {
    for (int wait : new int[] {-2, -3, 1001, 1002, LEAST, MOST}) {
      worn.no("line(0, 1, " + wait + ", 1)", x -> x.line(0, 1, wait, 1));
      worn.no("line(4, 2, " + wait + ", 1)", x -> x.line(4, 2, wait, 1));
    }
    for (int per : new int[] {0, -1, -2, 1001, 1002, LEAST, MOST}) {
      worn.no("line(0, 1, 0, " + per + ")", x -> x.line(0, 1, 0, per));
      worn.no("line(4, 2, 1000, " + per + ")", x -> x.line(4, 2, 1000, per));
    }
  }

  private static void lineRefusesNoSuchTwo() {
    int[][] twos = {{-1, 0}, {0, -1}, {5, 0}, {0, 5}, {4, 5}, {15, 0}, {0, 16}, {0, 0}, {4, 4}, {3, 3}, {-1, -1},
        {5, 5}, {LEAST, 0}, {0, LEAST}, {MOST, 0}, {0, MOST}, {LEAST, MOST}};
    for (int[] two : twos) {
      worn.no("line(" + two[0] + ", " + two[1] + ", 1, 1)", x -> x.line(two[0], two[1], 1, 1));
      worn.no("line(" + two[0] + ", " + two[1] + ", NONE, 1)", x -> x.line(two[0], two[1], -1, 1));
    }
    Refusals full = new Refusals(due, "full", Houses::full);
    full.no("line(0, 16, 1, 1)", x -> x.line(0, 16, 1, 1));
    full.no("line(16, 15, 1, 1)", x -> x.line(16, 15, 1, 1));
    full.no("line(15, 15, 1, 1)", x -> x.line(15, 15, 1, 1));
    SumsToAll x = new SumsToAll();
    x.hosts(16);
    due.is("line(15, 0, 1, 1) of sixteen", x.line(15, 0, 1, 1), true);
    due.is("line(14, 15, 1, 1) of sixteen", x.line(14, 15, 1, 1), true);
    due.is("both are there", x.count(2), 2);
  }

  private static void lineInPlaceOfTheOneThatIs() {
    SumsToAll x = new SumsToAll();
    x.line(0, 1, 1000, 1000);
    due.is("line(0, 1, 0, 1)", x.line(0, 1, 0, 1), true);
    due.is("still one", x.count(2), 1);
    due.is("the new pace", Look.line(x, 0, 1), "0+1");
    due.is("told from the other end", x.line(1, 0, 7, 8), true);
    due.is("still one", x.count(2), 1);
    due.is("the new pace", Look.line(x, 0, 1), "7+8");
    due.is("of a lost one", x.live(1, false) && x.line(0, 1, 2, 3), true);
    due.is("the new pace", Look.line(x, 0, 1), "2+3");
  }

  private static void lineNoneWhereThereIsNone() {
    SumsToAll x = Houses.worn();
    due.is("nine of ten", x.count(2), 9);
    due.is("line(4, 2, NONE, 1)", x.line(4, 2, SumsToAll.NONE, 1), true);
    due.is("nine still", x.count(2), 9);
    due.is("line(3, 4, NONE, 1), 3 being lost", x.line(3, 4, SumsToAll.NONE, 1), true);
    due.is("eight", x.count(2), 8);
    SumsToAll y = new SumsToAll();
    due.is("of a new one: line(0, 1, NONE, 1)", y.line(0, 1, SumsToAll.NONE, 1), true);
    due.is("not below none", y.count(2), 0);
  }

  private static void lineBothWays() {
    SumsToAll x = new SumsToAll();
    x.hosts(3);
    x.line(2, 0, 4, 5);
    due.is("0 to 2", x.send(0, 0, 2, 0, 0, false), 1);
    due.is("2 to 0", x.send(1, 2, 0, 0, 0, false), 2);
    due.is("the same pace", x.ticks(), 18);
    x.line(0, 2, SumsToAll.NONE, 1);
    due.is("none: 0 to 2", x.send(0, 0, 2, 0, 0, false), -1);
    due.is("none: 2 to 0", x.send(1, 2, 0, 0, 0, false), -1);
  }

  private static void lineTakesTheSends() {
    int[][] lines = {{0, 1, 1, 101}, {2, 4, 5, 5}, {2, 4, -1, 1}, {1, 3, -1, 1}, {0, 4, 0, 1}};
    for (int[] l : lines) {
      SumsToAll x = Houses.worn();
      due.is("line", x.line(l[0], l[1], l[2], l[3]), true);
      due.is("the sends are all gone", x.count(3), 0);
      due.is("the blocks are not", x.at(4, 15), 4016);
    }
  }

  private static void letterOfOneToSixteenBlocks() {
    int[][] paces = {{0, 1}, {1000, 1000}, {0, 1000}, {1000, 1}};
    for (int[] p : paces) {
      SumsToAll x = new SumsToAll();
      x.line(0, 1, p[0], p[1]);
      for (int k = 1; k <= 16; k++) {
        x.send(0, 1, 0, 16 - k, k - 1, k % 2 == 0);
        due.is(k + " blocks by " + p[0] + " and " + p[1], x.ticks(), p[0] + k * p[1]);
      }
    }
  }

  // Promise 4

  private static void netRefusesOthers() {
    for (Refusals r : everywhere) {
      for (int form : new int[] {-1, -2, 4, 5, LEAST, MOST}) {
        r.none("net(" + form + ", 1, 1)", x -> x.net(form, 1, 1));
      }
      for (int wait : new int[] {-1, -2, 1001, LEAST, MOST}) {
        r.none("net(1, " + wait + ", 1)", x -> x.net(1, wait, 1));
      }
      for (int per : new int[] {0, -1, 1001, LEAST, MOST}) {
        r.none("net(0, 1, " + per + ")", x -> x.net(0, 1, per));
      }
    }
    worn.none("net(2, -1, 0)", x -> x.net(2, -1, 0));
    worn.none("net(3, 1001, 1000)", x -> x.net(3, 1001, 1000));
  }

  private static void netPaces() {
    for (int form = 0; form < 4; form++) {
      for (int wait : new int[] {0, 1, 999, 1000}) {
        for (int per : new int[] {1, 2, 999, 1000}) {
          SumsToAll x = new SumsToAll();
          due.is("net(" + form + ", " + wait + ", " + per + ")", x.net(form, wait, per), 1);
          due.is("its pace", Look.line(x, 0, 1), wait + "+" + per);
        }
      }
    }
  }

  /** Behind the last one comes 0; of two it is the one line that is there already. */
  private static void netRing() {
    for (int n = 2; n <= 16; n++) {
      String want = "";
      for (int a = 0; a < n; a++) {
        for (int b = a + 1; b < n; b++) {
          want += b - a == 1 || b - a == n - 1 ? "y" : "n";
        }
      }
      joinsJust(0, n, n == 2 ? 1 : n, want);
    }
  }

  private static void netAllWithAll() {
    for (int n = 2; n <= 16; n++) {
      joinsJust(1, n, n * (n - 1) / 2, "y".repeat(n * (n - 1) / 2));
    }
  }

  private static void netRow() {
    for (int n = 2; n <= 16; n++) {
      String want = "";
      for (int a = 0; a < n; a++) {
        for (int b = a + 1; b < n; b++) {
          want += b - a == 1 ? "y" : "n";
        }
      }
      joinsJust(2, n, n - 1, want);
    }
  }

  /** Those who would be joined with a number that no host has are not. */
  private static void netOneBit() {
    int[] lines = {1, 2, 4, 5, 7, 9, 12, 13, 15, 17, 20, 22, 25, 28, 32};
    for (int n = 2; n <= 16; n++) {
      String want = "";
      for (int a = 0; a < n; a++) {
        for (int b = a + 1; b < n; b++) {
          int unlike = a ^ b;
          want += unlike == 1 || unlike == 2 || unlike == 4 || unlike == 8 ? "y" : "n";
        }
      }
      joinsJust(3, n, lines[n - 2], want);
    }
  }

  private static void joinsJust(int form, int n, int lines, String want) {
    String call = "net(" + form + ", 10, 1) of " + n;
    SumsToAll x = new SumsToAll();
    x.hosts(n);
    due.is(call, x.net(form, 10, 1), lines);
    due.is(call + ": count(2)", x.count(2), lines);
    due.is(call + " again", x.net(form, 10, 1), lines);
    String got = "";
    for (int a = 0; a < n; a++) {
      for (int b = a + 1; b < n; b++) {
        got += x.send(0, a, b, 0, 0, false) == 1 ? "y" : "n";
        x.clear();
      }
    }
    due.is(call + ": who is joined", got, want);
  }

  private static void netLeavesOtherLines() {
    SumsToAll x = Houses.worn();
    due.is("a row in a worn house", x.net(2, 0, 1), 9);
    due.is("0 with 1 is of the row", Look.line(x, 0, 1), "0+1");
    due.is("2 with 3, a lost one, too", Look.line(x, 2, 3), "0+1");
    due.is("0 with 4 is as it was", Look.line(x, 0, 4), "4+140");
    due.is("2 with 4 is none", Look.line(x, 2, 4), "none");
    due.is("a ring", x.net(0, 1000, 1000), 9);
    due.is("0 with 4 is of the ring", Look.line(x, 0, 4), "1000+1000");
    due.is("1 with 3 is as it was", Look.line(x, 1, 3), "13+131");
    due.is("all with all", x.net(1, 2, 2), 10);
    due.is("2 with 4 is there", Look.line(x, 2, 4), "2+2");
  }

  private static void netTakesTheSends() {
    for (int form = 0; form < 4; form++) {
      SumsToAll x = Houses.full();
      due.is("1200 are there", x.count(3), 1200);
      due.is("net(" + form + ", 10, 1), as it is", x.net(form, 10, 1), 120);
      due.is("the sends are gone", x.count(3), 0);
      due.is("and the steps", x.count(4), 0);
    }
  }

  // Promises 5 and 6

  private static void setAtTheEdges() {
    SumsToAll x = new SumsToAll();
    x.hosts(16);
    int[] values = {LEAST, LEAST + 1, -1, 0, 1, MOST - 1, MOST};
    for (int host : new int[] {0, 15}) {
      for (int block : new int[] {0, 15}) {
        for (int v : values) {
          due.is("set(" + host + ", " + block + ", " + v + ")", x.set(host, block, v), true);
          due.is("at(" + host + ", " + block + ")", x.at(host, block), v);
        }
      }
    }
  }

  private static void setChangesOneBlock() {
    int[][] cells = {{0, 0}, {0, 15}, {1, 0}, {3, 7}, {4, 15}};
    for (int[] c : cells) {
      SumsToAll x = Houses.worn();
      due.is("set(" + c[0] + ", " + c[1] + ", -5)", x.set(c[0], c[1], -5), true);
      for (int host = 0; host < 5; host++) {
        for (int block = 0; block < 16; block++) {
          boolean one = host == c[0] && block == c[1];
          due.is("at(" + host + ", " + block + ")", x.at(host, block), one ? -5 : 1000 * host + block + 1);
        }
      }
      due.is("the sends stay", x.count(3), 4);
    }
  }

  private static final int[][] NO_BLOCKS = {{-1, 0}, {5, 0}, {6, 15}, {15, 0}, {16, 0}, {0, -1}, {4, 16}, {0, 16},
      {4, 17}, {-1, 16}, {5, -1}, {LEAST, 0}, {MOST, 0}, {0, LEAST}, {0, MOST}, {1, -16}, {-1, 31}, {1 << 28, 0}};

  private static void setRefusesNoneSuch() {
    for (int[] p : NO_BLOCKS) {
      worn.no("set(" + p[0] + ", " + p[1] + ", -5)", x -> x.set(p[0], p[1], -5));
    }
    Refusals full = new Refusals(due, "full", Houses::full);
    full.no("set(16, 0, -5)", x -> x.set(16, 0, -5));
    full.no("set(15, 16, -5)", x -> x.set(15, 16, -5));
    full.no("set(-1, 15, -5)", x -> x.set(-1, 15, -5));
  }

  private static void atThrowsNoneSuch() {
    for (int[] p : NO_BLOCKS) {
      worn.is("at(" + p[0] + ", " + p[1] + ") throws NoSuchElementException", x -> thrown(x, p[0], p[1]), 1);
    }
    Refusals full = new Refusals(due, "full", Houses::full);
    full.is("at(16, 0) throws NoSuchElementException", x -> thrown(x, 16, 0), 1);
    full.is("at(15, 16) throws NoSuchElementException", x -> thrown(x, 15, 16), 1);
    SumsToAll x = Houses.worn();
    due.is("at(0, 0)", x.at(0, 0), 1);
    due.is("at(4, 15)", x.at(4, 15), 4016);
    due.is("at(3, 15) of a lost one", x.at(3, 15), 3016);
  }

  private static int thrown(SumsToAll x, int host, int block) {
    try {
      x.at(host, block);
      return 0;
    } catch (java.util.NoSuchElementException e) {
      return e.getClass() == java.util.NoSuchElementException.class ? 1 : 2;
    }
  }

  // Promise 7

  private static void liveRefusesNoneSuch() {
    for (boolean is : new boolean[] {true, false}) {
      for (int host : new int[] {-1, 5, 6, 15, 16, LEAST, MOST}) {
        worn.no("live(" + host + ", " + is + ")", x -> x.live(host, is));
      }
      for (Refusals r : everywhere) {
        r.no("live(-1, " + is + ")", x -> x.live(-1, is));
        r.no("live(16, " + is + ")", x -> x.live(16, is));
      }
    }
  }

  private static void liveRefusesTheLastOne() {
    for (int n : new int[] {2, 3, 16}) {
      for (int last : new int[] {0, n - 1}) {
        Refusals alone = new Refusals(due, "alone: " + last + " of " + n, () -> allButOneLost(n, last));
        alone.no("live(" + last + ", false)", x -> x.live(last, false));
        SumsToAll x = allButOneLost(n, last);
        due.is("one is live", x.count(1), 1);
        due.is("a lost one may be lost again", x.live(n - 1 - last, false), true);
        due.is("the last one may be live as it was", x.live(last, true), true);
        due.is("one is live still", x.count(1), 1);
        due.is("with another one live", x.live(n - 1 - last, true), true);
        due.is("it may be lost", x.live(last, false), true);
        due.is("and the other is the last one", x.live(n - 1 - last, false), false);
        due.is("one is live", x.count(1), 1);
      }
    }
  }

  private static SumsToAll allButOneLost(int n, int last) {
    SumsToAll x = Houses.joined(n);
    for (int host = 0; host < n; host++) {
      if (host != last) {
        x.live(host, false);
      }
    }
    return x;
  }

  private static void liveOfEachHost() {
    for (int host = 0; host < 16; host++) {
      SumsToAll x = Houses.joined(16);
      x.late(host, 40);
      due.is("live(" + host + ", false)", x.live(host, false), true);
      due.is("fifteen are live", x.count(1), 15);
      due.is("of sixteen", x.count(0), 16);
      due.is("with all lines", x.count(2), 120);
      due.is("it is lost", x.freely(host), -1);
      due.is("lost again", x.live(host, false), true);
      due.is("fifteen still", x.count(1), 15);
      due.is("live(" + host + ", true)", x.live(host, true), true);
      due.is("sixteen", x.count(1), 16);
      due.is("as late as it was", x.freely(host), 40);
      due.is("live again", x.live(host, true), true);
      due.is("sixteen still", x.count(1), 16);
    }
  }

  private static void liveTakesTheSends() {
    for (boolean is : new boolean[] {true, false}) {
      for (int host = 0; host < 5; host++) {
        SumsToAll x = Houses.worn();
        due.is("live(" + host + ", " + is + ")", x.live(host, is), true);
        due.is("the sends are gone", x.count(3), 0);
      }
    }
    SumsToAll x = Houses.lastOne();
    due.is("the last one live as it was", x.live(1, true), true);
  }

  // Promise 8

  private static void lateFromZeroToHundredThousand() {
    for (int ticks : new int[] {0, 1, 99999, 100000}) {
      for (int host : new int[] {0, 3, 4}) {
        SumsToAll x = Houses.worn();
        due.is("late(" + host + ", " + ticks + ")", x.late(host, ticks), true);
        due.is("the sends stay", x.count(3), 4);
        x.live(3, true);
        for (int other = 0; other < 5; other++) {
          due.is("freely(" + other + ")", x.freely(other), other == host ? ticks : 7 * other + 1);
        }
      }
    }
    SumsToAll x = new SumsToAll();
    x.hosts(16);
    due.is("late(15, 100000) of sixteen", x.late(15, 100000), true);
    due.is("late(15, 99999): in place of it", x.late(15, 99999), true);
    due.is("freely(15)", x.freely(15), 99999);
  }

  private static void lateRefusesOthers() {
    for (int ticks : new int[] {-1, -2, 100001, 100002, LEAST, MOST}) {
      worn.no("late(0, " + ticks + ")", x -> x.late(0, ticks));
      worn.no("late(3, " + ticks + ")", x -> x.late(3, ticks));
    }
    for (int host : new int[] {-1, 5, 6, 15, 16, LEAST, MOST}) {
      worn.no("late(" + host + ", 50)", x -> x.late(host, 50));
    }
    for (Refusals r : everywhere) {
      r.no("late(16, 50)", x -> x.late(16, 50));
    }
  }

  // Promise 9

  private static void countRefusesAnotherWhat() {
    for (Refusals r : everywhere) {
      for (int what : new int[] {-1, -2, 6, 7, LEAST, MOST}) {
        r.none("count(" + what + ")", x -> x.count(what));
      }
    }
  }

  private static void countOfTheEmptyAndTheFull() {
    counts("new", new SumsToAll(), 2, 2, 0, 0, 0, 0);
    counts("worn", Houses.worn(), 5, 4, 9, 4, 10, 3);
    counts("nearly full", Houses.nearlyFull(), 16, 16, 120, 1199, 64, 64 + 11);
    counts("full", Houses.full(), 16, 16, 120, 1200, 64, 64 + 11);
    counts("last one", Houses.lastOne(), 3, 1, 3, 0, 0, 0);
  }

  private static void counts(String place, SumsToAll x, int... want) {
    for (int what = 0; what < 6; what++) {
      due.is(place + ": count(" + what + ")", x.count(what), want[what]);
    }
  }

  /** One more than the greatest, not how many there are in which something is sent. */
  private static void countOfSteps() {
    for (int step : new int[] {0, 1, 62, 63}) {
      SumsToAll x = Houses.joined(2);
      x.send(step, 0, 1, 0, 0, false);
      due.is("one send in step " + step + ": count(4)", x.count(4), step + 1);
      x.send(0, 1, 0, 0, 0, false);
      due.is("and one in step 0: count(4)", x.count(4), step + 1);
    }
  }

  private static void countOfLetters() {
    SumsToAll x = Houses.joined(16);
    for (int host = 0; host < 16; host++) {
      x.send(0, host, (host + 1) % 16, 0, 0, false);
      due.is("a letter more", x.count(5), host + 1);
    }
    for (int block = 1; block < 16; block++) {
      x.send(0, 3, 4, block, block, true);
      due.is("a block more in a letter", x.count(5), 16);
    }
    x.send(1, 3, 4, 0, 0, false);
    due.is("in another step it is another one", x.count(5), 17);
    x.send(1, 4, 3, 0, 0, false);
    due.is("back it is another one", x.count(5), 18);
    x.build(0, 2, 0);
    due.is("a ring's letters to all", x.count(5), 480);
  }
}
