/** The boundary cases of promise 1, sentence by sentence. */
public final class ConstructionEdgesTest {
  public static void main(String[] args) {
    Checks.under("Promise 1: Construction and initial state");
    Checks.sentence("clamps `cap` into 1..8", ConstructionEdgesTest::capsInRangeStay);
    Checks.sentence("a value below 1 becomes 1", ConstructionEdgesTest::tooSmall);
    Checks.sentence("a value above 8 becomes 8", ConstructionEdgesTest::tooLarge);
    Checks.sentence("Every int is accepted.", ConstructionEdgesTest::everyInt);
    Checks.sentence("the clock is 0", ConstructionEdgesTest::clockIsZero);
    Checks.sentence("the text is empty", ConstructionEdgesTest::textIsEmpty);
    Checks.sentence("there is no staged schedule", ConstructionEdgesTest::nothingIsStaged);
    Checks.sentence("all MAX_JOBS slots are empty", ConstructionEdgesTest::slotsAreEmpty);
    Checks.sentence("`cap` never changes afterwards.", ConstructionEdgesTest::capStays);
    Checks.end();
  }

  /** The cap as it shows: the most runs that one advance starts of a job that fires every missed time. */
  private static int capOf(CronEngine x) {
    Checks.compiles(x, "* * * * *");
    int slot = x.addJob(CronEngine.MIS_FIRE_ALL, CronEngine.CON_ALLOW);
    x.advance(20);
    int started = x.jobStat(slot, CronEngine.S_STARTED);
    x.removeJob(slot);
    return started;
  }

  private static void capIs(int cap, int clamped) {
    Checks.due("the cap of new CronEngine(" + cap + ")", capOf(new CronEngine(cap)), clamped);
  }

  private static void capsInRangeStay() {
    for (int cap = 1; cap <= 8; cap++) {
      capIs(cap, cap);
    }
  }

  private static void tooSmall() {
    for (int cap : new int[] {0, -1, -2, -7, -8, -256 + 5, -65536 + 5, Integer.MIN_VALUE + 5, Integer.MIN_VALUE}) {
      capIs(cap, 1);
    }
  }

  private static void tooLarge() {
    for (int cap : new int[] {9, 10, 16, 64, 256 + 5, 65536 + 5, Integer.MAX_VALUE - 1, Integer.MAX_VALUE}) {
      capIs(cap, 8);
    }
  }

  private static void everyInt() {
    for (int bit = 0; bit < 32; bit++) {
      for (int beside = -1; beside <= 1; beside++) {
        int cap = (1 << bit) + beside;
        capIs(cap, cap < 1 ? 1 : Math.min(cap, 8));
        capIs(-cap, -cap < 1 ? 1 : Math.min(-cap, 8));
      }
    }
  }

  private static void clockIsZero() {
    for (int cap = -1; cap <= 9; cap++) {
      Checks.due("getClock()", new CronEngine(cap).getClock(), 0);
    }
  }

  private static void textIsEmpty() {
    for (int cap = -1; cap <= 9; cap++) {
      CronEngine x = new CronEngine(cap);
      Checks.due("textLength()", x.textLength(), 0);
      Checks.type(x, "1 2 3 4 5");
      Checks.due("compile() of what was typed", x.compile(), true);
      Checks.due("the sets", Checks.staged(x), "[1][2][3][4][5]");
    }
  }

  private static void nothingIsStaged() {
    for (int cap = -1; cap <= 9; cap++) {
      Texts.nothingStaged(new CronEngine(cap));
    }
  }

  private static void slotsAreEmpty() {
    for (int cap = -1; cap <= 9; cap++) {
      CronEngine x = new CronEngine(cap);
      for (int slot = 0; slot < 8; slot++) {
        Checks.due("the stats of slot " + slot, Checks.job(x, slot), Checks.EMPTY_SLOT);
        Checks.due("complete(" + slot + ")", x.complete(slot), false);
        Checks.due("removeJob(" + slot + ")", x.removeJob(slot), false);
      }
      Checks.compiles(x, "* * * * *");
      for (int slot = 0; slot < 8; slot++) {
        Checks.due("addJob(0, 0)", x.addJob(0, 0), slot);
      }
    }
  }

  private static void capStays() {
    for (int cap = 1; cap <= 8; cap++) {
      CronEngine x = new CronEngine(cap);
      for (int round = 0; round < 10; round++) {
        Checks.due("the cap in round " + round, capOf(x), cap);
        x.advance(-1);
        x.addJob(round, round);
        x.advance(1000 * round);
        x.complete(0);
        Checks.compiles(x, round % 2 == 0 ? "wrong" : "*/9 * * * *");
        x.clearText();
      }
    }
  }
}
