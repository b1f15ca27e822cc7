import java.util.List;
import java.util.function.Consumer;
import java.util.function.Function;
import java.util.function.Supplier;

/** Objects in states that differ in every part, and a way to see that calls on them changed nothing. */
final class States {
  static final String[] JOB_TEXTS = {"*/10 * * * *", "0 * * * *", "*/7 0-5 * * 0-6", "*/5 */2 1-30 * 0,1"};
  static final List<State> ALL = List.of(
      new State("a new object", () -> new CronEngine(3), ""),
      new State("a text half typed", () -> new CronEngine(2), "1 2 3 4"),
      new State("a staged schedule and a full text", () -> Checks.withStaged(5, "*/7 3 *,2 * 1"), Texts.FULL),
      new State("three jobs", () -> withJobs(4, 3), "1 2 3 4"),
      new State("all slots taken", () -> withJobs(8, 8), "6 7 8 9"),
      new State("jobs and nothing staged", () -> compiled(withJobs(3, 5), "wrong"), Texts.FULL),
      new State("the last minute but one", () -> advanced(withJobs(2, 7), CronEngine.MAXT - 126), "1 2 3 4"),
      new State("the last minute", () -> advanced(withJobs(7, 4), CronEngine.MAXT), "1 2 3 4"));

  private static final List<View> TEXT_VIEWS = List.of(
      new View("textLength()", x -> "" + x.textLength()),
      new View("the text compiled", x -> x.compile() + sets(x)),
      new View("the text typed on and compiled", States::typedOn));
  private static final List<View> STAGED_VIEWS = List.of(
      new View("the sets", States::sets),
      new View("the stars", x -> x.dayStarred(CronEngine.F_DOM) + " " + x.dayStarred(CronEngine.F_DOW)),
      new View("the next firings", x -> x.nextFire(0) + " " + x.nextFire(125) + " " + x.nextFire(2000000)),
      new View("a job added in the first place", States::readded));
  private static final List<View> JOB_VIEWS = List.of(
      new View("getClock()", x -> "" + x.getClock()),
      new View("the jobs", Checks::jobs),
      new View("the runs that can be completed", States::completable),
      new View("the runs that time starts", States::startable),
      new View("the jobs in the course of time", x -> startable(x) + Checks.jobs(x)));

  private States() {}

  record State(String name, Supplier<CronEngine> untyped, String text) {
    CronEngine make() {
      CronEngine x = untyped.get();
      Checks.type(x, text);
      return x;
    }
  }

  /** A part of an object, seen through few kinds of calls: harm that one does is seen by the views without it. */
  private record View(String name, Function<CronEngine, String> look) {}

  private static String sets(CronEngine x) {
    StringBuilder all = new StringBuilder();
    for (int field = 0; field < 5; field++) {
      all.append('[').append(Checks.set(x, field)).append(']');
    }
    return all.toString();
  }

  private static String typedOn(CronEngine x) {
    Checks.type(x, " 5");
    return x.compile() + sets(x);
  }

  private static String completable(CronEngine x) {
    StringBuilder all = new StringBuilder();
    for (int slot = 0; slot < CronEngine.MAX_JOBS; slot++) {
      int runs = 0;
      while (runs < 1000 && x.complete(slot)) {
        runs++;
      }
      all.append(' ').append(runs);
    }
    return all.toString();
  }

  private static String startable(CronEngine x) {
    StringBuilder all = new StringBuilder();
    for (int n : new int[] {1, 9, 60, 777, 20000}) {
      all.append(' ').append(x.advance(n));
    }
    return all.toString();
  }

  private static String readded(CronEngine x) {
    return x.removeJob(0) + " " + x.addJob(2, 0) + " " + x.advance(50000) + Checks.jobs(x);
  }

  /** Jobs of all policies, each with runs behind it, at the clock 125, and a schedule staged after all that. */
  static CronEngine withJobs(int cap, int count) {
    CronEngine x = new CronEngine(cap);
    for (int slot = 0; slot < count; slot++) {
      Checks.compiles(x, JOB_TEXTS[slot % 4]);
      x.addJob(2 - slot % 3, (slot + slot / 3) % 3);
    }
    x.advance(100);
    x.advance(20);
    x.advance(5);
    x.complete(0);
    return compiled(x, "*/7 3 *,2 * 1");
  }

  /** All slots taken by jobs that fire every missed time, with each concurrency policy in turn. */
  static CronEngine withFullTable(int cap, String text) {
    CronEngine x = Checks.withStaged(cap, text);
    for (int slot = 0; slot < 8; slot++) {
      Checks.due("addJob into slot " + slot, x.addJob(2, slot % 3), slot);
    }
    return x;
  }

  static String[] slots(CronEngine x) {
    String[] all = new String[8];
    for (int slot = 0; slot < 8; slot++) {
      all[slot] = Checks.job(x, slot);
    }
    return all;
  }

  static void slotsAre(String when, CronEngine x, String[] want) {
    Checks.due("the slots " + when, String.join("|", slots(x)), String.join("|", want));
  }

  private static CronEngine compiled(CronEngine x, String text) {
    Checks.compiles(x, text);
    return x;
  }

  private static CronEngine advanced(CronEngine x, int n) {
    x.advance(n);
    return x;
  }

  /** Each view looks at two objects made for it alone, so that no look disturbs another. */
  private static void same(List<View> views, String what, Supplier<CronEngine> one, Supplier<CronEngine> other) {
    for (View view : views) {
      CronEngine x = one.get();
      CronEngine y = other.get();
      Checks.due(view.name + " after " + what, view.look.apply(x), view.look.apply(y));
    }
  }

  private static Supplier<CronEngine> with(Supplier<CronEngine> maker, Consumer<CronEngine> calls) {
    return () -> {
      CronEngine x = maker.get();
      calls.accept(x);
      return x;
    };
  }

  /** Two objects led the same way, of which one gets the calls, are not to be told apart afterwards. */
  static void changesNothing(State state, String call, Consumer<CronEngine> calls) {
    String what = call + " with " + state.name;
    same(TEXT_VIEWS, what, with(state::make, calls), state::make);
    same(STAGED_VIEWS, what, with(state::make, calls), state::make);
    same(JOB_VIEWS, what, with(state::make, calls), state::make);
  }

  static void changesNothingAnywhere(String call, Consumer<CronEngine> calls) {
    for (State state : ALL) {
      changesNothing(state, call, calls);
    }
  }

  /** But for its text, an object that was typed into and called is like one in which nothing was ever typed. */
  static void changesOnlyTheText(String call, Consumer<CronEngine> calls) {
    for (State state : ALL) {
      String what = call + " with " + state.name;
      same(STAGED_VIEWS, what, with(state::make, calls), state.untyped);
      same(JOB_VIEWS, what, with(state::make, calls), state.untyped);
    }
  }

  static void emptiesTheText(String call, Consumer<CronEngine> calls) {
    for (State state : ALL) {
      same(TEXT_VIEWS, call + " with " + state.name, with(state::make, calls), state.untyped);
    }
  }

  static void keepsClockAndJobs(String call, Consumer<CronEngine> calls) {
    for (State state : ALL) {
      same(JOB_VIEWS, call + " with " + state.name, with(state::make, calls), state.untyped);
    }
  }
}
