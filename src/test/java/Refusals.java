import java.util.function.Predicate;
import java.util.function.Supplier;
import java.util.function.ToIntFunction;

/** Calls that are refused, each on an object made anew: the answer is as due, and nothing has changed. */
final class Refusals {
  private final Due due;
  private final String place;
  private final Supplier<SumsToAll> made;
  private final String ahead;

  Refusals(Due due, String place, Supplier<SumsToAll> made) {
    this.due = due;
    this.place = place;
    this.made = made;
    ahead = Look.at(made);
  }

  void is(String call, ToIntFunction<SumsToAll> asked, int want) {
    due.is(place + ": " + call, asked.applyAsInt(made.get()), want);
    String behind = Look.at(() -> {
      SumsToAll x = made.get();
      asked.applyAsInt(x);
      return x;
    });
    due.is(place + ": " + call + " has changed nothing", behind.equals(ahead), true);
  }

  void none(String call, ToIntFunction<SumsToAll> asked) {
    is(call, asked, SumsToAll.NONE);
  }

  void no(String call, Predicate<SumsToAll> asked) {
    is(call, x -> asked.test(x) ? 1 : 0, 0);
  }
}
