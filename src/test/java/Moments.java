import java.util.ArrayList;
import java.util.List;
import java.util.function.Consumer;

/** Twins at moments of long runs of calls, in every part of the window, with full tables and with slots used again. */
final class Moments {
  private static final int MAXT = CronEngine.MAXT;
  private static final int RUNS = 8;
  private static final int CALLS_OF_A_RUN = 1500;
  private static final int CALLS_TO_A_MOMENT = 100;
  /** So that a run takes about its own eighth of the window, and is not soon at the end. */
  private static final int LONGEST_STEP = 4000;
  /** What stands typed at a moment: nothing, four fields that a fifth completes, or as much as the text can hold. */
  private static final String[] TYPED = {"", "6-50/7 4 9 MAR", Texts.FULL};
  /** The last minutes before the calendar turns, and the end. */
  private static final int[] TURNS = {
    Checks.at(2096, 2, 28, 23, 59), Checks.at(2096, 2, 29, 23, 59), Checks.at(2096, 12, 31, 23, 59),
    Checks.at(2100, 2, 28, 23, 59), Checks.at(2100, 12, 31, 23, 59), MAXT - 1, MAXT
  };
  private static final List<Twin> ALL = all();

  private Moments() {}

  private static List<Twin> all() {
    List<Twin> moments = new ArrayList<>();
    for (int run = 0; run < RUNS; run++) {
      addRun(run, moments);
    }
    for (int turn : TURNS) {
      Twin moment = latestBefore(turn, moments).copy();
      moment.advance(turn - moment.getClock());
      moments.add(moment);
    }
    return moments;
  }

  /** Each run begins in another part of the window, with a cap of its own. */
  private static void addRun(int run, List<Twin> moments) {
    Twin twin = new Twin("run " + run + ": ", run + 1);
    twin.advance(MAXT / RUNS * run);
    RandomCalls calls = new RandomCalls(1000 + run, twin, LONGEST_STEP);
    for (int i = 1; i <= CALLS_OF_A_RUN; i++) {
      calls.call();
      twin.looksSame();
      if (i % CALLS_TO_A_MOMENT == 0) {
        moments.add(momentOf(twin, TYPED[moments.size() % TYPED.length]));
      }
    }
  }

  private static Twin momentOf(Twin twin, String typed) {
    Twin moment = twin.copy();
    moment.clearText();
    moment.type(typed);
    return moment;
  }

  private static Twin latestBefore(int time, List<Twin> moments) {
    Twin latest = moments.get(0);
    for (Twin moment : moments) {
      if (moment.getClock() < time && moment.getClock() > latest.getClock()) {
        latest = moment;
      }
    }
    return latest;
  }

  /** A test may do what it likes to the twins, as it gets copies. */
  static void each(Consumer<Twin> test) {
    for (Twin moment : ALL) {
      test.accept(moment.copy());
    }
  }

  /** The same with each slot in turn that has a job. */
  static void eachJob(SlotTest test) {
    for (Twin moment : ALL) {
      for (int slot = 0; slot < CronEngine.MAX_JOBS; slot++) {
        if (moment.isJob(slot)) {
          test.accept(moment.copy(), slot);
        }
      }
    }
  }

  interface SlotTest {
    void accept(Twin twin, int slot);
  }
}
