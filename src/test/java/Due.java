import java.util.NoSuchElementException;

/** Counts the answers that are not as due, and ends a test by them. */
final class Due {
  private int wrong = 0;
  private int asked = 0;

  void is(String call, long got, long want) {
    asked++;
    if (got != want) {
      wrong++;
      System.out.println(call + " answered " + got + ", due is " + want);
    }
  }

  void is(String call, boolean got, boolean want) {
    is(call, got ? 1L : 0L, want ? 1L : 0L);
  }

  void is(String call, String got, String want) {
    asked++;
    if (!got.equals(want)) {
      wrong++;
      System.out.println(call + " answered " + got + ", due is " + want);
    }
  }

  void throwsNone(String call, SumsToAll x, int host, int block) {
    boolean thrown = false;
    try {
      x.at(host, block);
    } catch (NoSuchElementException e) {
      thrown = true;
    }
    is(call + " throws NoSuchElementException", thrown, true);
  }

  void end() {
    System.out.println(asked + " answers looked at, " + wrong + " not as due");
    if (wrong != 0) {
      System.exit(1);
    }
  }
}
