/** Promises 11, 12, 14, 15 and 16: addJob, removeJob, complete, getClock, jobStat. */
public final class JobsTest {
  private static final String EMPTY = Checks.EMPTY_SLOT;
  private static final int[] WRONG_SLOTS = {
    -1, -2, -8, 8, 9, 16, 256, Integer.MIN_VALUE, Integer.MAX_VALUE, Integer.MIN_VALUE + 3
  };

  public static void main(String[] args) {
    checkAddFillsTheLowestSlot();
    checkAddRefused();
    checkJobHoldsItsOwnCopy();
    checkOnlyLaterTimesConcernAJob();
    checkAddLeavesTheRest();
    checkRemove();
    checkRemoveRefused();
    checkReusedSlotStartsAnew();
    checkComplete();
    checkCompleteRefused();
    checkClock();
    checkStats();
    checkNextTime();
    checkStatRefused();
    checkStatChangesNothing();
    Checks.end();
  }

  private static void checkAddFillsTheLowestSlot() {
    CronEngine x = Checks.withStaged(3, "* * * * *");
    for (int slot = 0; slot < 8; slot++) {
      int misfire = slot % 3;
      int concurrency = slot / 3;
      Checks.due("addJob(" + misfire + ", " + concurrency + ")", x.addJob(misfire, concurrency), slot);
      Checks.due("job " + slot, Checks.job(x, slot), "0 0 0 0 0 0 1 " + misfire + " " + concurrency);
    }
    String full = Checks.state(x);
    Checks.due("addJob(0, 0) with all slots taken", x.addJob(0, 0), -1);
    Checks.due("the state after that", Checks.state(x), full);
    for (int slot : new int[] {5, 2, 7}) {
      x.removeJob(slot);
    }
    Checks.due("addJob into the lowest gap", x.addJob(0, 0), 2);
    Checks.due("addJob into the next gap", x.addJob(0, 0), 5);
    Checks.due("addJob into the last gap", x.addJob(0, 0), 7);
    Checks.due("addJob with all slots taken again", x.addJob(0, 0), -1);
  }

  private static void checkAddRefused() {
    CronEngine x = new CronEngine(3);
    for (int misfire = -1; misfire <= 3; misfire++) {
      for (int concurrency = -1; concurrency <= 3; concurrency++) {
        Checks.due("addJob with nothing staged", x.addJob(misfire, concurrency), -1);
      }
    }
    Checks.due("jobs after refused calls", Checks.jobs(x), ("(" + EMPTY + ")").repeat(8));
    Checks.compiles(x, "* * * * *");
    x.advance(5);
    x.addJob(1, 2);
    Checks.type(x, "4");
    String before = Checks.state(x);
    for (int wrong : new int[] {-1, -2, 3, 4, 256, Integer.MIN_VALUE, Integer.MAX_VALUE}) {
      for (int right = 0; right <= 2; right++) {
        Checks.due("addJob(" + wrong + ", " + right + ")", x.addJob(wrong, right), -1);
        Checks.due("addJob(" + right + ", " + wrong + ")", x.addJob(right, wrong), -1);
      }
      Checks.due("addJob(" + wrong + ", " + wrong + ")", x.addJob(wrong, wrong), -1);
    }
    Checks.due("the state after refused calls", Checks.state(x), before);
    Checks.compiles(x, "wrong");
    Checks.due("addJob after a rejected text", x.addJob(0, 0), -1);
  }

  private static void checkJobHoldsItsOwnCopy() {
    CronEngine x = Checks.withStaged(3, "0 0 */2 * 1");
    int and = Checks.at(2096, 1, 9, 0, 0);
    Checks.due("nextFire(0)", x.nextFire(0), and);
    x.addJob(0, 0);
    x.addJob(2, 0);
    Checks.compiles(x, "0 0 1/2 * 1");
    int or = Checks.at(2096, 1, 2, 0, 0);
    Checks.due("nextFire(0)", x.nextFire(0), or);
    x.addJob(0, 0);
    Checks.compiles(x, "rejected");
    Checks.due("S_NEXT of the first job", x.jobStat(0, 6), and);
    Checks.due("S_NEXT of its twin", x.jobStat(1, 6), and);
    Checks.due("S_NEXT of the later job", x.jobStat(2, 6), or);
    Checks.due("advance to the later job's time", x.advance(or), 1);
    Checks.due("advance to the first jobs' time", x.advance(and - or), 3);
    Checks.compiles(x, "30 5 29 2 *");
    x.addJob(1, 1);
    Checks.due("S_NEXT of every field copied", x.jobStat(3, 6), Checks.at(2096, 2, 29, 5, 30));
  }

  private static void checkOnlyLaterTimesConcernAJob() {
    CronEngine x = Checks.withStaged(8, "0 0 * * *");
    x.advance(5 * 1440);
    x.addJob(2, 0);
    Checks.due("S_NEXT of a job added at a fire time", x.jobStat(0, 6), 6 * 1440);
    Checks.due("advance(1439) before its first time", x.advance(1439), 0);
    Checks.due("misfires before its first time", x.jobStat(0, 5), 0);
    Checks.due("advance(1) to its first time", x.advance(1), 1);
    Checks.due("misfires at its first time", x.jobStat(0, 5), 0);
    x.addJob(2, 0);
    Checks.due("advance(2880) for both", x.advance(2880), 4);
    Checks.due("started of the earlier", x.jobStat(0, 1), 3);
    Checks.due("started of the later", x.jobStat(1, 1), 2);
  }

  private static void checkAddLeavesTheRest() {
    CronEngine x = Checks.withStaged(3, "*/9 * *,4 * 2");
    x.addJob(2, 0);
    x.advance(9999);
    Checks.type(x, "5 4 3");
    String schedule = Checks.staged(x);
    String first = Checks.job(x, 0);
    x.addJob(0, 2);
    Checks.due("the sets after addJob", Checks.staged(x), schedule);
    Checks.due("the other job after addJob", Checks.job(x, 0), first);
    Checks.due("the clock after addJob", x.getClock(), 9999);
    Checks.due("textLength() after addJob", x.textLength(), 5);
    Checks.type(x, " 2 1");
    Checks.due("compile() of a text typed around addJob", x.compile(), true);
    Checks.due("the sets of that text", Checks.staged(x), "[5][4][3][2][1]");
  }

  private static void checkRemove() {
    CronEngine x = Checks.withStaged(3, "*/9 * * * *");
    for (int slot = 0; slot < 8; slot++) {
      x.addJob(slot % 3, slot % 2);
    }
    x.advance(100);
    Checks.type(x, "12 1");
    String schedule = Checks.staged(x);
    for (int slot : new int[] {3, 0, 7, 4}) {
      String[] before = States.slots(x);
      Checks.due("removeJob(" + slot + ")", x.removeJob(slot), true);
      before[slot] = EMPTY;
      States.slotsAre("after removeJob", x, before);
      Checks.due("removeJob(" + slot + ") again", x.removeJob(slot), false);
      Checks.due("complete(" + slot + ") of a removed job", x.complete(slot), false);
      Checks.due("the sets after removeJob", Checks.staged(x), schedule);
      Checks.due("the clock after removeJob", x.getClock(), 100);
      Checks.due("textLength() after removeJob", x.textLength(), 4);
    }
    // Minute 105 is passed: slot 1 skips it, slot 5 forbids it for its running run, slots 2 and 6 start one each.
    Checks.due("advance(9) with four jobs left", x.advance(9), 2);
    for (int slot = 0; slot < 8; slot++) {
      x.removeJob(slot);
    }
    Checks.due("advance(9) with no job left", x.advance(9), 0);
  }

  private static void checkRemoveRefused() {
    CronEngine x = Checks.withStaged(3, "*/9 * * * *");
    x.addJob(0, 0);
    x.addJob(0, 0);
    x.advance(50);
    Checks.type(x, "12");
    String before = Checks.state(x);
    for (int slot : WRONG_SLOTS) {
      Checks.due("removeJob(" + slot + ")", x.removeJob(slot), false);
    }
    for (int slot = 2; slot < 8; slot++) {
      Checks.due("removeJob(" + slot + ") of an empty slot", x.removeJob(slot), false);
    }
    Checks.due("the state after refused calls", Checks.state(x), before);
  }

  private static void checkReusedSlotStartsAnew() {
    for (int concurrency = 0; concurrency <= 2; concurrency++) {
      CronEngine x = Checks.withStaged(5, "* * * * *");
      x.addJob(2, concurrency);
      x.advance(40);
      x.advance(40);
      x.complete(0);
      x.removeJob(0);
      Checks.due("job 0 after removeJob", Checks.job(x, 0), EMPTY);
      Checks.compiles(x, "0 * * * *");
      Checks.due("addJob into the freed slot", x.addJob(1, 1), 0);
      Checks.due("the new job 0", Checks.job(x, 0), "0 0 0 0 0 0 120 1 1");
    }
  }

  private static void checkComplete() {
    CronEngine x = Checks.withStaged(5, "* * * * *");
    x.addJob(2, 0);
    x.addJob(2, 0);
    x.advance(10);
    Checks.type(x, "12");
    String other = Checks.job(x, 1);
    String schedule = Checks.staged(x);
    for (int done = 1; done <= 5; done++) {
      Checks.due("complete(0)", x.complete(0), true);
      Checks.due("job 0", Checks.job(x, 0), (5 - done) + " 5 " + done + " 0 0 1 11 2 0");
    }
    Checks.due("complete(0) with nothing running", x.complete(0), false);
    Checks.due("job 0", Checks.job(x, 0), "0 5 5 0 0 1 11 2 0");
    Checks.due("job 1 after complete(0)", Checks.job(x, 1), other);
    Checks.due("the clock after complete", x.getClock(), 10);
    Checks.due("textLength() after complete", x.textLength(), 2);
    Checks.due("the sets after complete", Checks.staged(x), schedule);
  }

  private static void checkCompleteRefused() {
    CronEngine x = Checks.withStaged(5, "0 * * * *");
    x.addJob(0, 0);
    x.addJob(0, 0);
    Checks.due("complete(0) before any run", x.complete(0), false);
    x.advance(60);
    String before = Checks.state(x);
    for (int slot : WRONG_SLOTS) {
      Checks.due("complete(" + slot + ")", x.complete(slot), false);
    }
    for (int slot = 2; slot < 8; slot++) {
      Checks.due("complete(" + slot + ") of an empty slot", x.complete(slot), false);
    }
    Checks.due("the state after refused calls", Checks.state(x), before);
    x.removeJob(1);
    Checks.due("complete(1) of a job removed while running", x.complete(1), false);
    Checks.due("complete(0)", x.complete(0), true);
    Checks.due("complete(0) again", x.complete(0), false);
  }

  private static void checkClock() {
    CronEngine x = new CronEngine(5);
    Checks.due("getClock()", x.getClock(), 0);
    Checks.due("getClock() again", x.getClock(), 0);
    x.advance(0);
    x.advance(-5);
    Checks.due("getClock() after refused advances", x.getClock(), 0);
    x.advance(1);
    Checks.due("getClock() after advance(1)", x.getClock(), 1);
    x.advance(1440);
    Checks.due("getClock() after advance(1440)", x.getClock(), 1441);
    x.advance(CronEngine.MAXT - 1441);
    Checks.due("getClock() at the end", x.getClock(), CronEngine.MAXT);
    x.advance(1);
    Checks.due("getClock() after an advance at the end", x.getClock(), CronEngine.MAXT);
  }

  private static void checkStats() {
    CronEngine x = Checks.withStaged(4, "*/10 * * * *");
    x.addJob(2, 0);
    x.addJob(2, 1);
    x.addJob(2, 2);
    x.advance(35);
    x.complete(0);
    Checks.due("the allowing job", Checks.job(x, 0), "2 3 1 0 0 1 40 2 0");
    Checks.due("the forbidding job", Checks.job(x, 1), "1 1 0 2 0 1 40 2 1");
    Checks.due("the replacing job", Checks.job(x, 2), "1 3 0 0 2 1 40 2 2");
    x.advance(CronEngine.MAXT - 35);
    Checks.due("S_NEXT at the end", x.jobStat(0, 6), CronEngine.NONE);
    Checks.compiles(x, "0 0 31 2 *");
    x.addJob(0, 0);
    Checks.due("a job that never fires", Checks.job(x, 3), "0 0 0 0 0 0 -1 0 0");
  }

  /** S_NEXT is what nextFire answers at the clock for the same schedule. */
  private static void checkNextTime() {
    String[] texts = {"59 23 31 12 *", "0 0 29 2 *", "30 6 13 * 5", "*/7 */5 */3 */2 */2", "* * * * *"};
    for (String text : texts) {
      CronEngine x = Checks.withStaged(4, text);
      x.addJob(1, 0);
      for (int clock : new int[] {1, 84959, 84960, 2188799, 2188800, CronEngine.MAXT - 1, CronEngine.MAXT}) {
        x.advance(clock - x.getClock());
        Checks.due("'" + text + "': S_NEXT at " + clock, x.jobStat(0, 6), x.nextFire(clock));
      }
    }
    CronEngine x = Checks.withStaged(4, "59 23 31 12 *");
    x.addJob(0, 0);
    x.advance(CronEngine.MAXT - 1);
    Checks.due("S_NEXT before the last time", x.jobStat(0, 6), CronEngine.MAXT);
    Checks.due("advance(1) to the last time", x.advance(1), 1);
    Checks.due("S_NEXT at the last time", x.jobStat(0, 6), CronEngine.NONE);
  }

  private static void checkStatRefused() {
    CronEngine x = Checks.withStaged(4, "*/10 * * * *");
    for (int slot = 0; slot < 8; slot++) {
      x.addJob(slot % 3, slot % 3);
    }
    x.advance(1000);
    for (int which = 0; which <= 8; which++) {
      for (int slot : WRONG_SLOTS) {
        Checks.due("jobStat(" + slot + ", " + which + ")", x.jobStat(slot, which), -1);
      }
    }
    for (int slot = 0; slot < 8; slot++) {
      for (int which : new int[] {-1, -2, 9, 10, 256, Integer.MIN_VALUE, Integer.MAX_VALUE}) {
        Checks.due("jobStat(" + slot + ", " + which + ")", x.jobStat(slot, which), -1);
      }
    }
    x.removeJob(4);
    Checks.due("the stats of a removed job", Checks.job(x, 4), EMPTY);
  }

  private static void checkStatChangesNothing() {
    CronEngine x = Checks.withStaged(4, "*/10 * *,3 * 3");
    x.addJob(2, 2);
    x.advance(10000);
    Checks.type(x, "12");
    String before = Checks.state(x);
    for (int slot = -1; slot <= 8; slot++) {
      for (int which = -1; which <= 9; which++) {
        x.jobStat(slot, which);
        x.getClock();
        x.textLength();
      }
    }
    Checks.due("the state after jobStat", Checks.state(x), before);
  }
}
