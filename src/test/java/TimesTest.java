/** Promises 16, 17 and 20: ticks in step and freely, and the fewest steps of a spread. */
public final class TimesTest {
  private static final Due due = new Due();

  public static void main(String[] args) {
    ticks();
    mostTicks();
    freely();
    late();
    fewestRefused();
    fewestOfForms();
    fewestNeedsSearch();
    fewestAmongTheLost();
    due.end();
  }

  private static void ticks() {
    SumsToAll x = new SumsToAll();
    x.hosts(4);
    due.is("no plan", x.ticks(), 0);
    x.line(0, 1, 10, 2);
    x.line(1, 2, 3, 5);
    x.line(2, 3, 0, 1);
    x.send(0, 0, 1, 0, 0, false);
    due.is("one block", x.ticks(), 12);
    x.send(0, 0, 1, 0, 1, true);
    x.send(0, 0, 1, 7, 2, false);
    due.is("three blocks in a letter", x.ticks(), 16);
    x.send(0, 1, 2, 7, 2, false);
    due.is("a shorter one beside it", x.ticks(), 16);
    x.send(0, 1, 2, 7, 3, false);
    x.send(0, 1, 2, 7, 4, false);
    due.is("a longer one beside it", x.ticks(), 18);
    x.send(5, 2, 3, 0, 0, false);
    due.is("a later step", x.ticks(), 19);
    x.send(5, 3, 2, 0, 0, false);
    due.is("both ways at once", x.ticks(), 19);
    x.late(0, 1000);
    due.is("late ones are not reckoned", x.ticks(), 19);
    due.is("letters", x.count(5), 4);
  }

  private static void mostTicks() {
    SumsToAll x = new SumsToAll();
    x.net(1, 1000, 1000);
    for (int step = 0; step < 64; step++) {
      for (int block = 0; block < 16; block++) {
        x.send(step, 0, 1, block, block, false);
      }
    }
    due.is("64 long letters", x.ticks(), 64 * 17000);
    x.late(0, 100000);
    due.is("and late", x.freely(1), 100000 + 64 * 17000);
  }

  private static void freely() {
    SumsToAll x = new SumsToAll();
    x.hosts(5);
    x.line(0, 1, 10, 1);
    x.line(1, 2, 0, 4);
    x.line(3, 2, 0, 100);
    x.send(0, 0, 1, 0, 0, false);
    x.send(0, 1, 2, 0, 0, false);
    due.is("0 has sent", x.freely(0), 11);
    due.is("1 has sent and got: the later end", x.freely(1), 11);
    due.is("2 has got", x.freely(2), 4);
    due.is("3 was not in it", x.freely(3), 0);
    x.send(1, 2, 1, 0, 0, false);
    due.is("begins at the greater time of two", x.freely(2), 15);
    due.is("so does the other", x.freely(1), 15);
    x.send(2, 3, 2, 0, 0, false);
    due.is("after step 1", x.freely(3), 115);
    x.send(2, 2, 1, 0, 0, false);
    due.is("ahead of the step, not within it", x.freely(1), 19);
    due.is("the latest end of its letters", x.freely(2), 115);
    x.send(3, 3, 2, 0, 0, false);
    x.send(3, 2, 1, 0, 0, false);
    due.is("sends and has in one step", x.freely(3), 215);
    due.is("both begin at the time ahead", x.freely(1), 119);
    due.is("freely(-1)", x.freely(-1), -1);
    due.is("freely(5)", x.freely(5), -1);
    x.live(4, false);
    due.is("freely(lost)", x.freely(4), -1);
    due.is("no plan now", x.freely(1), 0);
  }

  private static void late() {
    SumsToAll x = new SumsToAll();
    x.hosts(3);
    x.net(2, 5, 1);
    x.late(0, 100);
    x.late(2, 3);
    x.send(0, 1, 0, 0, 0, false);
    x.send(1, 1, 2, 0, 0, false);
    due.is("waits for the late one", x.freely(0), 106);
    due.is("the next one waits too", x.freely(2), 112);
    due.is("in step it is not so", x.ticks(), 12);
    x.clear();
    due.is("late without letters", x.freely(0), 100);
    due.is("late without letters", x.freely(2), 3);
  }

  private static void fewestRefused() {
    SumsToAll x = new SumsToAll();
    x.hosts(9);
    x.net(1, 1, 1);
    due.is("nine", x.fewest(0), -1);
    x.live(8, false);
    due.is("eight of nine", x.fewest(0), 3);
    due.is("from the lost one", x.fewest(8), -1);
    due.is("fewest(-1)", x.fewest(-1), -1);
    due.is("fewest(9)", x.fewest(9), -1);
    x.line(0, 8, -1, 1);
    for (int host = 1; host < 8; host++) {
      x.line(0, host, -1, 1);
    }
    due.is("it can't be", x.fewest(0), -1);
    due.is("nor from another", x.fewest(1), -1);
    x.live(0, false);
    due.is("but without it", x.fewest(1), 3);
  }

  private static void fewestOfForms() {
    int[] all = {0, 0, 1, 2, 2, 3, 3, 3, 3};
    int[] ring = {0, 0, 1, 2, 2, 3, 3, 4, 4};
    for (int n = 2; n <= 8; n++) {
      SumsToAll x = new SumsToAll();
      x.hosts(n);
      x.net(1, 1, 1);
      due.is("all with all, " + n, x.fewest(n - 1), all[n]);
      x.hosts(n);
      x.net(0, 1, 1);
      due.is("a ring of " + n, x.fewest(n / 2), ring[n]);
      x.hosts(n);
      x.net(2, 1, 1);
      due.is("a row of " + n, x.fewest(0), n - 1);
      x.hosts(n);
      for (int host = 1; host < n; host++) {
        x.line(0, host, 1000, 1000);
      }
      due.is("a star of " + n, x.fewest(0), n - 1);
      due.is("a star of " + n + " from a tip", x.fewest(1), n - 1);
    }
  }

  /** 0 with 1 and 2; 1 has a chain of three behind it: whoever goes to 2 first is a step late. */
  private static void fewestNeedsSearch() {
    SumsToAll x = new SumsToAll();
    x.hosts(6);
    int[][] lines = {{0, 5}, {0, 1}, {5, 2}, {2, 3}, {3, 4}};
    for (int[] l : lines) {
      x.line(l[0], l[1], 1, 1);
    }
    due.is("the long chain first", x.fewest(0), 4);
    due.is("from its far end", x.fewest(4), 5);
    x.hosts(8);
    int[][] shared = {{0, 1}, {0, 2}, {1, 3}, {1, 4}, {2, 4}, {2, 5}, {4, 6}, {5, 7}};
    for (int[] l : shared) {
      x.line(l[0], l[1], 1, 1);
    }
    due.is("who tells the shared one", x.fewest(0), 4);
  }

  private static void fewestAmongTheLost() {
    SumsToAll x = new SumsToAll();
    x.hosts(16);
    x.net(3, 1, 1);
    for (int host = 0; host < 16; host += 2) {
      x.live(host, false);
    }
    due.is("a cube of the odd ones", x.fewest(15), 3);
    x.live(1, false);
    due.is("without one corner", x.fewest(15), 3);
    for (int host = 3; host < 15; host += 2) {
      x.live(host, false);
    }
    due.is("alone", x.fewest(15), 0);
    x.build(0, 0, 15);
    due.is("no plan is needed or made", x.count(3), 0);
  }
}
