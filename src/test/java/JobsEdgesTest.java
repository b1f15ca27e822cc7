/** The boundary cases of promises 12, 14, 15 and 16, sentence by sentence. */
public final class JobsEdgesTest {
  private static final int MAXT = CronEngine.MAXT;
  private static final int NONE = CronEngine.NONE;
  private static final String EMPTY = Checks.EMPTY_SLOT;
  private static final int[] NO_SLOTS = {
    -1, 8, -2, 9, -8, 16, 64, 256, 65536, Integer.MIN_VALUE, Integer.MIN_VALUE + 3, Integer.MAX_VALUE
  };

  public static void main(String[] args) {
    sentencesOnRemoving();
    sentencesOnCompleting();
    sentencesOnTheClock();
    sentencesOnStats();
    Checks.end();
  }

  private static void sentencesOnRemoving() {
    Checks.under("Promise 12: removeJob");
    Checks.sentence("`slot` is not 0..MAX_JOBS-1", JobsEdgesTest::removeOutsideTheTable);
    Checks.sentence("that slot is empty", JobsEdgesTest::removeOfAnEmptySlot);
    Checks.sentence("the slot becomes empty, and its job and counters are gone", JobsEdgesTest::removedIsGone);
    Checks.sentence("A later `addJob` may reuse the slot, starting with counters at 0.", JobsEdgesTest::reusedSlot);
    Checks.sentence("Other slots, the clock, the text and the staged schedule are unchanged.",
        JobsEdgesTest::removeLeavesTheRest);
  }

  private static void sentencesOnCompleting() {
    Checks.under("Promise 14: complete");
    Checks.sentence("`slot` is not 0..MAX_JOBS-1", JobsEdgesTest::completeOutsideTheTable);
    Checks.sentence("the slot is empty", JobsEdgesTest::completeOfAnEmptySlot);
    Checks.sentence("its running is 0", JobsEdgesTest::completeWithNothingRunning);
    Checks.sentence("running decreases by 1 and completed increases by 1", JobsEdgesTest::completeByOne);
    Checks.sentence("Nothing else changes, including the clock.", JobsEdgesTest::completeLeavesTheRest);
  }

  private static void sentencesOnTheClock() {
    Checks.under("Promise 15: getClock");
    Checks.sentence("answers the clock, a value in 0..MAXT", JobsEdgesTest::clockFromEndToEnd);
    Checks.sentence("It changes nothing.", JobsEdgesTest::clockChangesNothing);
  }

  private static void sentencesOnStats() {
    Checks.under("Promise 16: jobStat");
    Checks.sentence("`slot` is not 0..MAX_JOBS-1", JobsEdgesTest::statOutsideTheTable);
    Checks.sentence("the slot is empty", JobsEdgesTest::statOfAnEmptySlot);
    Checks.sentence("`which` is not 0..8", JobsEdgesTest::wrongStat);
    Checks.sentence("S_RUNNING, S_STARTED, S_COMPLETED, S_DROPPED, S_CANCELLED, S_MISFIRES: the counter named.",
        JobsEdgesTest::eachCounter);
    Checks.sentence("`next(job's schedule, clock)`, which may be NONE", JobsEdgesTest::nextMayBeNone);
    Checks.sentence("This is the value `nextFire(getClock())` would answer", JobsEdgesTest::nextAsNextFire);
    Checks.sentence("S_MISFIRE_POLICY, S_CONCURRENCY_POLICY: the policy given to `addJob`.",
        JobsEdgesTest::policiesStay);
    Checks.sentence("It changes nothing.", JobsEdgesTest::statChangesNothing);
  }

  // ---- promise 12 ----

  private static void removeOutsideTheTable() {
    CronEngine x = States.withFullTable(1, "* * * * *");
    String[] before = States.slots(x);
    for (int slot : NO_SLOTS) {
      Checks.due("removeJob(" + slot + ")", x.removeJob(slot), false);
    }
    States.slotsAre("after that", x, before);
    Checks.due("removeJob(0)", x.removeJob(0), true);
    Checks.due("removeJob(7)", x.removeJob(7), true);
  }

  private static void removeOfAnEmptySlot() {
    CronEngine x = Checks.withStaged(1, "* * * * *");
    for (int slot = 0; slot < 8; slot++) {
      Checks.due("removeJob(" + slot + ") of an empty table", x.removeJob(slot), false);
    }
    for (int slot = 0; slot < 8; slot++) {
      Checks.due("addJob", x.addJob(0, 0), slot);
      if (slot < 7) {
        Checks.due("removeJob of the slot after the last job", x.removeJob(slot + 1), false);
      }
    }
    for (int slot = 0; slot < 8; slot++) {
      Checks.due("removeJob(" + slot + ")", x.removeJob(slot), true);
      Checks.due("removeJob(" + slot + ") a second time", x.removeJob(slot), false);
    }
  }

  private static void removedIsGone() {
    for (int slot = 0; slot < 8; slot++) {
      CronEngine x = States.withFullTable(3, "* * * * *");
      x.advance(10);
      x.complete(slot);
      Checks.due("removeJob(" + slot + ")", x.removeJob(slot), true);
      Checks.due("the stats of slot " + slot, Checks.job(x, slot), EMPTY);
      Checks.due("complete(" + slot + ")", x.complete(slot), false);
      for (int other = 0; other < 8; other++) {
        x.removeJob(other);
      }
      Checks.due("advance(10) with every job removed", x.advance(10), 0);
      Checks.due("the stats after that", Checks.job(x, slot), EMPTY);
    }
  }

  private static void reusedSlot() {
    for (int slot = 0; slot < 8; slot++) {
      for (int concurrency = 0; concurrency <= 2; concurrency++) {
        CronEngine x = Checks.withStaged(4, "* * * * *");
        for (int other = 0; other < 8; other++) {
          x.addJob(2, concurrency);
        }
        x.advance(10);
        x.advance(10);
        x.complete(slot);
        x.removeJob(slot);
        Checks.compiles(x, "0 * * * *");
        Checks.due("addJob into the freed slot", x.addJob(1, 1), slot);
        Checks.due("the new job", Checks.job(x, slot), "0 0 0 0 0 0 60 1 1");
        Checks.due("complete(" + slot + ") of the new job", x.complete(slot), false);
        int others = new int[] {7 * 4, 0, 7 * 4}[concurrency];
        Checks.due("advance(40) to the new job's time", x.advance(40), others + 1);
        Checks.due("the new job after it", Checks.job(x, slot), "1 1 0 0 0 0 120 1 1");
      }
    }
  }

  private static void removeLeavesTheRest() {
    for (int slot = 0; slot < 8; slot++) {
      CronEngine x = States.withJobs(3, 8);
      Checks.type(x, "5 4 3");
      String[] want = States.slots(x);
      want[slot] = EMPTY;
      String schedule = Checks.staged(x);
      x.removeJob(slot);
      States.slotsAre("after removeJob(" + slot + ")", x, want);
      Checks.due("the sets after removeJob", Checks.staged(x), schedule);
      Checks.due("the clock after removeJob", x.getClock(), 125);
      Checks.due("textLength() after removeJob", x.textLength(), 5);
      Checks.type(x, " 2 1");
      Checks.due("compile() of a text typed around removeJob", x.compile(), true);
      Checks.due("the sets of that text", Checks.staged(x), "[5][4][3][2][1]");
    }
  }

  // ---- promise 14 ----

  private static void completeOutsideTheTable() {
    CronEngine x = States.withFullTable(3, "* * * * *");
    x.advance(10);
    String[] before = States.slots(x);
    for (int slot : NO_SLOTS) {
      Checks.due("complete(" + slot + ")", x.complete(slot), false);
    }
    States.slotsAre("after that", x, before);
    Checks.due("complete(0)", x.complete(0), true);
    Checks.due("complete(7)", x.complete(7), true);
  }

  private static void completeOfAnEmptySlot() {
    CronEngine x = Checks.withStaged(3, "* * * * *");
    for (int slot = 0; slot < 8; slot++) {
      Checks.due("complete(" + slot + ") of an empty table", x.complete(slot), false);
    }
    CronEngine y = States.withFullTable(3, "* * * * *");
    y.advance(10);
    for (int slot = 0; slot < 8; slot++) {
      y.removeJob(slot);
      Checks.due("complete(" + slot + ") of a job removed while it ran", y.complete(slot), false);
      Checks.due("the stats of slot " + slot, Checks.job(y, slot), EMPTY);
    }
  }

  private static void completeWithNothingRunning() {
    for (int concurrency = 0; concurrency <= 2; concurrency++) {
      CronEngine x = Checks.withStaged(3, "0 * * * *");
      x.addJob(0, concurrency);
      Checks.due("complete(0) of a new job", x.complete(0), false);
      x.advance(59);
      Checks.due("complete(0) before the first fire time", x.complete(0), false);
      Checks.due("the job", Checks.job(x, 0), "0 0 0 0 0 0 60 0 " + concurrency);
      x.advance(1);
      Checks.due("complete(0) of one run", x.complete(0), true);
      Checks.due("complete(0) again", x.complete(0), false);
      Checks.due("the job", Checks.job(x, 0), "0 1 1 0 0 0 120 0 " + concurrency);
    }
  }

  private static void completeByOne() {
    CronEngine x = Checks.withStaged(8, "* * * * *");
    x.addJob(2, 0);
    x.advance(8);
    for (int done = 0; done < 8; done++) {
      Checks.due("running", x.jobStat(0, CronEngine.S_RUNNING), 8 - done);
      Checks.due("completed", x.jobStat(0, CronEngine.S_COMPLETED), done);
      Checks.due("complete(0)", x.complete(0), true);
    }
    Checks.due("the job", Checks.job(x, 0), "0 8 8 0 0 1 9 2 0");
    Checks.due("complete(0) of the ninth", x.complete(0), false);
  }

  private static void completeLeavesTheRest() {
    for (int slot = 0; slot < 8; slot++) {
      CronEngine x = States.withFullTable(3, "* * * * *");
      x.advance(10);
      x.advance(10);
      Checks.type(x, "5 4 3");
      String[] want = States.slots(x);
      String schedule = Checks.staged(x);
      int running = x.jobStat(slot, CronEngine.S_RUNNING);
      Checks.due("complete(" + slot + ")", x.complete(slot), true);
      want[slot] = want[slot].replaceFirst("^(\\d+ \\d+) 0", "$1 1").replaceFirst("^\\d+", "" + (running - 1));
      States.slotsAre("after complete(" + slot + ")", x, want);
      Checks.due("the clock after complete", x.getClock(), 20);
      Checks.due("the sets after complete", Checks.staged(x), schedule);
      Checks.due("textLength() after complete", x.textLength(), 5);
      Checks.type(x, " 2 1");
      Checks.due("compile() of a text typed around complete", x.compile(), true);
      Checks.due("the sets of that text", Checks.staged(x), "[5][4][3][2][1]");
    }
    CronEngine last = States.withFullTable(3, "* * * * *");
    last.advance(MAXT);
    Checks.due("complete(0) at the last time", last.complete(0), true);
    Checks.due("the clock after it", last.getClock(), MAXT);
  }

  // ---- promise 15 ----

  private static void clockFromEndToEnd() {
    CronEngine x = new CronEngine(1);
    Checks.due("getClock() of a new object", x.getClock(), 0);
    x.advance(1);
    Checks.due("getClock() after advance(1)", x.getClock(), 1);
    x.advance(MAXT - 2);
    Checks.due("getClock() before the end", x.getClock(), MAXT - 1);
    x.advance(1);
    Checks.due("getClock() at the end", x.getClock(), MAXT);
    x.advance(1);
    Checks.due("getClock() after an advance at the end", x.getClock(), MAXT);
    CronEngine y = new CronEngine(1);
    y.advance(Integer.MAX_VALUE);
    Checks.due("getClock() after the longest advance", y.getClock(), MAXT);
    CronEngine z = new CronEngine(1);
    z.advance(Integer.MIN_VALUE);
    z.advance(0);
    Checks.due("getClock() after refused advances", z.getClock(), 0);
  }

  private static void clockChangesNothing() {
    States.changesNothingAnywhere("getClock()", x -> {
      x.getClock();
      x.getClock();
    });
  }

  // ---- promise 16 ----

  private static void statOutsideTheTable() {
    CronEngine x = States.withFullTable(3, "* * * * *");
    x.advance(10);
    for (int slot : NO_SLOTS) {
      for (int which = -1; which <= 9; which++) {
        Checks.due("jobStat(" + slot + ", " + which + ")", x.jobStat(slot, which), -1);
      }
    }
    Checks.due("jobStat(0, S_STARTED)", x.jobStat(0, CronEngine.S_STARTED), 3);
    Checks.due("jobStat(7, S_STARTED)", x.jobStat(7, CronEngine.S_STARTED), 1);
  }

  private static void statOfAnEmptySlot() {
    CronEngine x = new CronEngine(3);
    for (int slot = 0; slot < 8; slot++) {
      Checks.due("the stats of slot " + slot + " of a new object", Checks.job(x, slot), EMPTY);
    }
    CronEngine y = States.withFullTable(3, "* * * * *");
    y.advance(10);
    for (int slot = 0; slot < 8; slot++) {
      y.removeJob(slot);
      Checks.due("the stats of slot " + slot + " after removeJob", Checks.job(y, slot), EMPTY);
    }
  }

  private static void wrongStat() {
    CronEngine x = States.withFullTable(3, "* * * * *");
    x.advance(10);
    for (int slot = 0; slot < 8; slot++) {
      for (int which : new int[] {-1, 9, -2, 10, 64, 256, 65536, Integer.MIN_VALUE, Integer.MAX_VALUE}) {
        Checks.due("jobStat(" + slot + ", " + which + ")", x.jobStat(slot, which), -1);
      }
      Checks.due("jobStat(" + slot + ", 0)", x.jobStat(slot, 0), slot % 3 == 0 ? 3 : 1);
      Checks.due("jobStat(" + slot + ", 8)", x.jobStat(slot, 8), slot % 3);
    }
  }

  /** Three jobs whose counters are all told apart by their numbers. */
  private static void eachCounter() {
    CronEngine x = Checks.withStaged(7, "* * * * *");
    x.addJob(2, CronEngine.CON_ALLOW);
    x.addJob(2, CronEngine.CON_FORBID);
    x.addJob(2, CronEngine.CON_REPLACE);
    x.advance(10);
    x.advance(10);
    x.advance(1);
    for (int i = 0; i < 4; i++) {
      x.complete(0);
    }
    Checks.due("the allowing job", Checks.job(x, 0), "11 15 4 0 0 2 22 2 0");
    Checks.due("the forbidding job", Checks.job(x, 1), "1 1 0 14 0 2 22 2 1");
    Checks.due("the replacing job", Checks.job(x, 2), "1 15 0 0 14 2 22 2 2");
  }

  private static void nextMayBeNone() {
    CronEngine never = Checks.withStaged(1, "0 0 31 2 *");
    never.addJob(0, 0);
    Checks.due("S_NEXT of a job that never fires", never.jobStat(0, CronEngine.S_NEXT), NONE);
    CronEngine once = Checks.withStaged(1, "0 0 29 2 *");
    once.addJob(0, 0);
    Checks.due("S_NEXT before the only fire time", once.jobStat(0, CronEngine.S_NEXT), 84960);
    once.advance(84959);
    Checks.due("S_NEXT in the minute before it", once.jobStat(0, CronEngine.S_NEXT), 84960);
    once.advance(1);
    Checks.due("S_NEXT at it", once.jobStat(0, CronEngine.S_NEXT), NONE);
    CronEngine last = Checks.withStaged(1, "* * * * *");
    last.addJob(0, 0);
    last.advance(MAXT - 1);
    Checks.due("S_NEXT in the last minute but one", last.jobStat(0, CronEngine.S_NEXT), MAXT);
    last.advance(1);
    Checks.due("S_NEXT at the last time", last.jobStat(0, CronEngine.S_NEXT), NONE);
  }

  private static void nextAsNextFire() {
    String[] texts = {"59 23 31 12 *", "0 0 29 2 *", "30 6 13 * 5", "*/7 */5 */3 */2 */2", "0 0 1 1 *"};
    for (String text : texts) {
      CronEngine x = Checks.withStaged(1, text);
      CronEngine y = Checks.withStaged(1, text);
      y.addJob(1, 0);
      y.compile();
      for (int clock : new int[] {0, 1, 84959, 84960, 2188799, 2188800, MAXT - 1, MAXT}) {
        y.advance(clock - y.getClock());
        Checks.due("S_NEXT of '" + text + "' at " + clock, y.jobStat(0, CronEngine.S_NEXT), x.nextFire(y.getClock()));
      }
    }
  }

  private static void policiesStay() {
    for (int misfire = 0; misfire <= 2; misfire++) {
      for (int concurrency = 0; concurrency <= 2; concurrency++) {
        CronEngine x = Checks.withStaged(3, "* * * * *");
        x.addJob(misfire, concurrency);
        x.addJob(2 - misfire, 2 - concurrency);
        x.advance(10);
        x.complete(0);
        Checks.due("S_MISFIRE_POLICY", x.jobStat(0, CronEngine.S_MISFIRE_POLICY), misfire);
        Checks.due("S_CONCURRENCY_POLICY", x.jobStat(0, CronEngine.S_CONCURRENCY_POLICY), concurrency);
      }
    }
  }

  private static void statChangesNothing() {
    States.changesNothingAnywhere("jobStat", x -> {
      for (int slot = -1; slot <= 8; slot++) {
        for (int which = -1; which <= 9; which++) {
          x.jobStat(slot, which);
        }
      }
    });
  }
}
