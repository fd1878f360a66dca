import java.util.ArrayList;
import java.util.List;
import java.util.function.Supplier;
import java.util.function.ToIntFunction;

/**
 * All that can be asked of an object, as one text: two objects with the same text are alike.
 * What is asked is spread over objects made anew, so that none is used for more than 512 calls.
 */
final class Look {
  private static final int ASKED_OF_ONE = 300;

  private final Supplier<SumsToAll> made;
  private final int hosts;
  private final StringBuilder told = new StringBuilder();

  private Look(Supplier<SumsToAll> made) {
    this.made = made;
    hosts = made.get().count(0);
  }

  static String at(Supplier<SumsToAll> made) {
    Look look = new Look(made);
    look.askAll();
    look.askTheLost();
    look.askTheLines();
    return look.told.toString();
  }

  private void askAll() {
    List<ToIntFunction<SumsToAll>> questions = questions(made.get().count(3));
    SumsToAll x = null;
    for (int i = 0; i < questions.size(); i++) {
      if (i % ASKED_OF_ONE == 0) {
        x = made.get();
      }
      told.append(questions.get(i).applyAsInt(x)).append(' ');
    }
  }

  /** Those that change nothing. */
  private List<ToIntFunction<SumsToAll>> questions(int sends) {
    List<ToIntFunction<SumsToAll>> q = new ArrayList<>();
    for (int i = 0; i < 6; i++) {
      int what = i;
      q.add(x -> x.count(what));
      for (int j = 0; j < sends; j++) {
        int send = j;
        q.add(x -> x.sent(send, what));
      }
    }
    q.add(SumsToAll::ticks);
    for (int i = 0; i < hosts; i++) {
      int host = i;
      q.add(x -> x.freely(host));
      q.add(x -> x.fewest(host));
      for (int j = 0; j < 16; j++) {
        int block = j;
        q.add(x -> x.at(host, block));
      }
      for (int ask = 0; ask < 5; ask++) {
        addAsked(q, ask, host);
      }
    }
    return q;
  }

  private static void addAsked(List<ToIntFunction<SumsToAll>> q, int ask, int root) {
    q.add(x -> x.right(ask, root));
    q.add(x -> x.best(ask, root));
    for (int i = 0; i < 4; i++) {
      int way = i;
      q.add(x -> x.price(way, ask, root));
    }
  }

  /** How late a lost one is shows when it is live again. */
  private void askTheLost() {
    for (int host = 0; host < hosts; host++) {
      SumsToAll x = made.get();
      x.live(host, true);
      told.append(x.freely(host)).append(' ');
    }
  }

  private void askTheLines() {
    for (int a = 0; a < hosts; a++) {
      for (int b = a + 1; b < hosts; b++) {
        told.append(line(made.get(), a, b)).append(' ');
      }
    }
  }

  /** "none", or the WAIT and the PER, both ways. The plan is gone then. */
  static String line(SumsToAll x, int a, int b) {
    x.live(a, true);
    x.live(b, true);
    String there = pace(x, a, b);
    String back = pace(x, b, a);
    return there.equals(back) ? there : there + " but back " + back;
  }

  private static String pace(SumsToAll x, int from, int to) {
    x.clear();
    if (x.send(0, from, to, 0, 0, false) == SumsToAll.NONE) {
      return "none";
    }
    int one = x.ticks();
    x.send(0, from, to, 1, 1, false);
    int per = x.ticks() - one;
    x.clear();
    return (one - per) + "+" + per;
  }
}
