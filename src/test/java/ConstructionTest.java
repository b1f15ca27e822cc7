/** Promise 1: construction and initial state. */
public final class ConstructionTest {
  public static void main(String[] args) {
    int[] caps = {
      Integer.MIN_VALUE, -8, -1, 0, 1, 2, 3, 4, 5, 6, 7, 8, 9, 10, 16, 64, 256, 65537, Integer.MAX_VALUE
    };
    for (int cap : caps) {
      checkInitialState(cap);
      checkClamp(cap);
    }
    checkObjectsAreApart();
    Checks.end();
  }

  private static void checkInitialState(int cap) {
    CronEngine x = new CronEngine(cap);
    String made = "new CronEngine(" + cap + "): ";
    Checks.due(made + "getClock()", x.getClock(), 0);
    Checks.due(made + "textLength()", x.textLength(), 0);
    Checks.due(made + "the staged sets", Checks.staged(x), "[][][][][]");
    Checks.due(made + "nextFire(0)", x.nextFire(0), CronEngine.NONE);
    Checks.due(made + "addJob(0, 0)", x.addJob(0, 0), -1);
    for (int slot = 0; slot < CronEngine.MAX_JOBS; slot++) {
      Checks.due(made + "job " + slot, Checks.job(x, slot), Checks.EMPTY_SLOT);
      Checks.due(made + "complete(" + slot + ")", x.complete(slot), false);
      Checks.due(made + "removeJob(" + slot + ")", x.removeJob(slot), false);
    }
    Checks.due(made + "compile()", x.compile(), false);
    Checks.due(made + "advance(1)", x.advance(1), 0);
  }

  private static void checkClamp(int cap) {
    int clamped = Math.max(1, Math.min(8, cap));
    CronEngine x = Checks.withStaged(cap, "* * * * *");
    x.addJob(CronEngine.MIS_FIRE_ALL, CronEngine.CON_ALLOW);
    Checks.due("cap " + cap + ": advance(100)", x.advance(100), clamped);
    Checks.due("cap " + cap + ": advance(100000)", x.advance(100000), clamped);
    x.removeJob(0);
    Checks.compiles(x, "*/2 * * * *");
    x.addJob(CronEngine.MIS_FIRE_ALL, CronEngine.CON_ALLOW);
    Checks.due("cap " + cap + ": advance(1000) of a later job", x.advance(1000), clamped);
  }

  private static void checkObjectsAreApart() {
    CronEngine x = Checks.withStaged(2, "* * * * *");
    CronEngine y = new CronEngine(5);
    String before = Checks.state(y);
    x.addJob(2, 0);
    x.advance(50);
    x.putChar('1');
    Checks.due("state of another object", Checks.state(y), before);
    Checks.compiles(y, "* * * * *");
    y.addJob(2, 0);
    Checks.due("advance(50) with cap 5 beside cap 2", y.advance(50), 5);
    Checks.due("advance(50) with cap 2 beside cap 5", x.advance(50), 2);
  }
}
