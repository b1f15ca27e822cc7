import java.util.List;
import java.util.function.Consumer;
import java.util.function.Supplier;

/** Objects in states that differ in every part, and a way to see that calls on them changed nothing. */
final class States {
  static final String[] JOB_TEXTS = {"*/10 * * * *", "0 * * * *", "*/7 0-5 * * 0-6", "*/5 */2 1-30 * 0,1"};
  static final List<State> ALL = List.of(
      new State("a new object", () -> new CronEngine(3), ""),
      new State("a text half typed", () -> new CronEngine(2), "1 2 3 4"),
      new State("a staged schedule and a full text", () -> Checks.withStaged(5, "*/7 3 *,2 * 1"), Texts.FULL),
      new State("three jobs", () -> withJobs(4, 3), "1 2 3 4"),
      new State("all slots taken", () -> withJobs(8, 8), "6 7 8 9"),
      new State("jobs and nothing staged", () -> compiled(withJobs(3, 5), "wrong"), Texts.FULL),
      new State("the last minute but one", () -> advanced(withJobs(2, 7), CronEngine.MAXT - 126), "1 2 3 4"),
      new State("the last minute", () -> advanced(withJobs(7, 4), CronEngine.MAXT), "1 2 3 4"));

  private States() {}

  record State(String name, Supplier<CronEngine> untyped, String text) {
    CronEngine make() {
      CronEngine x = untyped.get();
      Checks.type(x, text);
      return x;
    }
  }

  /** Jobs of all policies, each with runs behind it, at the clock 125. */
  static CronEngine withJobs(int cap, int count) {
    CronEngine x = new CronEngine(cap);
    for (int slot = 0; slot < count; slot++) {
      Checks.compiles(x, JOB_TEXTS[slot % 4]);
      x.addJob(2 - slot % 3, (slot + slot / 3) % 3);
    }
    Checks.compiles(x, "*/7 3 *,2 * 1");
    x.advance(100);
    x.advance(20);
    x.advance(5);
    x.complete(0);
    return x;
  }

  /** All slots taken by jobs that fire every missed time, with each concurrency policy in turn. */
  static CronEngine withFullTable(int cap, String text) {
    CronEngine x = Checks.withStaged(cap, text);
    for (int slot = 0; slot < 8; slot++) {
      Checks.due("addJob into slot " + slot, x.addJob(2, slot % 3), slot);
    }
    return x;
  }

  static String[] slots(CronEngine x) {
    String[] all = new String[8];
    for (int slot = 0; slot < 8; slot++) {
      all[slot] = Checks.job(x, slot);
    }
    return all;
  }

  static void slotsAre(String when, CronEngine x, String[] want) {
    Checks.due("the slots " + when, String.join("|", slots(x)), String.join("|", want));
  }

  private static CronEngine compiled(CronEngine x, String text) {
    Checks.compiles(x, text);
    return x;
  }

  private static CronEngine advanced(CronEngine x, int n) {
    x.advance(n);
    return x;
  }

  /** What later calls answer: they show the characters of the text, the cap and the copies that jobs hold. */
  static String future(CronEngine x) {
    StringBuilder log = new StringBuilder(Checks.state(x));
    for (int n : new int[] {1, 9, 60, 777, 20000}) {
      log.append(' ').append(x.advance(n)).append(Checks.jobs(x));
    }
    for (int slot = 0; slot < CronEngine.MAX_JOBS; slot++) {
      log.append(' ').append(x.complete(slot));
    }
    log.append(' ').append(x.removeJob(0)).append(' ').append(x.addJob(2, 0));
    log.append(' ').append(x.advance(5000)).append(Checks.jobs(x));
    Checks.type(x, " 5");
    log.append(' ').append(x.textLength()).append(' ').append(x.compile()).append(Checks.staged(x));
    return log.toString();
  }

  static void same(String what, CronEngine x, CronEngine y) {
    Checks.due(what + ": the same state", Checks.state(x), Checks.state(y));
    Checks.due(what + ": the same later answers", future(x).equals(future(y)), true);
  }

  /** Two objects led the same way, of which one gets the calls, are not to be told apart afterwards. */
  static void changesNothing(State state, String call, Consumer<CronEngine> calls) {
    CronEngine x = state.make();
    calls.accept(x);
    same(call + " with " + state.name, x, state.make());
  }

  static void changesNothingAnywhere(String call, Consumer<CronEngine> calls) {
    for (State state : ALL) {
      changesNothing(state, call, calls);
    }
  }

  /** The calls change the text alone, if they change anything. */
  static void changesOnlyTheText(String call, Consumer<CronEngine> calls) {
    for (State state : ALL) {
      CronEngine x = state.make();
      calls.accept(x);
      CronEngine y = state.untyped.get();
      Checks.due(call + " with " + state.name + ": the clock", x.getClock(), y.getClock());
      Checks.due(call + " with " + state.name + ": the sets", Checks.staged(x), Checks.staged(y));
      Checks.due(call + " with " + state.name + ": the jobs", Checks.jobs(x), Checks.jobs(y));
      x.clearText();
      same(call + " with " + state.name, x, y);
    }
  }
}
