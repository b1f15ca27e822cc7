/** The boundary cases of promise 13, sentence by sentence. */
public final class AdvanceEdgesTest {
  private static final int MAXT = CronEngine.MAXT;
  private static final int ONCE = CronEngine.MIS_FIRE_ONCE;
  private static final int SKIP = CronEngine.MIS_SKIP;
  private static final int ALL = CronEngine.MIS_FIRE_ALL;
  private static final int ALLOW = CronEngine.CON_ALLOW;
  private static final int FORBID = CronEngine.CON_FORBID;
  private static final int REPLACE = CronEngine.CON_REPLACE;

  public static void main(String[] args) {
    sentencesOnRefusalAndClock();
    sentencesOnTheJobs();
    sentencesOnTriggers();
    sentencesOnTheAnswer();
    Checks.end();
  }

  private static void sentencesOnRefusalAndClock() {
    Checks.under("Promise 13: advance");
    Checks.sentence("is refused and answers -1 when `n < 1`", AdvanceEdgesTest::stepTooSmall);
    Checks.sentence("`clock == MAXT`", AdvanceEdgesTest::clockAtItsEnd);
    Checks.sentence("MAXT when `n > MAXT - c`", AdvanceEdgesTest::stepBeyondTheEnd);
    Checks.sentence("and `c + n` otherwise", AdvanceEdgesTest::stepWithinTheWindow);
    Checks.sentence("The clock thus never passes MAXT", AdvanceEdgesTest::clockNeverPasses);
    Checks.sentence("no int overflow arises for large `n`", AdvanceEdgesTest::noOverflow);
    Checks.sentence("The clock becomes `c2`.", AdvanceEdgesTest::clockMovesWithoutJobs);
  }

  private static void sentencesOnTheJobs() {
    Checks.under("Promise 13: advance");
    Checks.sentence("for each occupied slot in ascending order", AdvanceEdgesTest::everyOccupiedSlot);
    Checks.sentence("`F` the set of times in `(c, c2]` matching `S`", AdvanceEdgesTest::openAndClosedEnd);
    Checks.sentence("times in `(c, c2]`", AdvanceEdgesTest::turnsOfTheCalendar);
    Checks.sentence("If `k >= 1` and `next(S, c) < c2`, misfires increases by 1.", AdvanceEdgesTest::misfires);
  }

  private static void sentencesOnTriggers() {
    Checks.under("Promise 13: advance");
    Checks.sentence("MIS_FIRE_ONCE: 1 if `k >= 1`, else 0", AdvanceEdgesTest::fireOnce);
    Checks.sentence("MIS_SKIP: 1 if `c2` matches `S`, else 0", AdvanceEdgesTest::skip);
    Checks.sentence("MIS_FIRE_ALL: the lesser of `k` and `cap`", AdvanceEdgesTest::fireAll);
    Checks.sentence("`T` times in turn, by the concurrency policy", AdvanceEdgesTest::noTriggerNoChange);
    Checks.sentence("CON_ALLOW: running += 1, started += 1", AdvanceEdgesTest::allow);
    Checks.sentence("CON_FORBID: if running > 0, dropped += 1", AdvanceEdgesTest::forbidWhileRunning);
    Checks.sentence("else running = 1, started += 1", AdvanceEdgesTest::forbidWithNothingRunning);
    Checks.sentence("CON_REPLACE: if running > 0, cancelled += running and running = 0",
        AdvanceEdgesTest::replaceWhileRunning);
    Checks.sentence("Then, in either case, running = 1 and started += 1.", AdvanceEdgesTest::replaceInEitherCase);
  }

  private static void sentencesOnTheAnswer() {
    Checks.under("Promise 13: advance");
    Checks.sentence("the sum, over all jobs, of the increases of started in this call", AdvanceEdgesTest::sum);
    Checks.sentence("this is 0 when no slot is occupied", AdvanceEdgesTest::noJobs);
    Checks.sentence("Policies, schedules, empty slots, the text and the staged schedule are unchanged.",
        AdvanceEdgesTest::theRestStays);
    Checks.under("What it is");
    Checks.sentence("the passing of time never ends a run", AdvanceEdgesTest::timeEndsNoRun);
    Checks.sentence("Running drops only through `complete`, through a CON_REPLACE trigger (counted as cancelled), "
        + "or when the job is removed.", AdvanceEdgesTest::whatEndsARun);
  }

  private static CronEngine withJob(int cap, String text, int misfire, int concurrency) {
    CronEngine x = Checks.withStaged(cap, text);
    Checks.due("addJob", x.addJob(misfire, concurrency), 0);
    return x;
  }

  private static CronEngine atClock(int clock) {
    CronEngine x = new CronEngine(1);
    x.advance(clock);
    Checks.due("getClock()", x.getClock(), clock);
    return x;
  }

  private static void advances(CronEngine x, int n, int want) {
    Checks.due("advance(" + n + ") at " + x.getClock(), x.advance(n), want);
  }

  /** The stats in their order: running, started, completed, dropped, cancelled, misfires, next, the two policies. */
  private static void jobIs(CronEngine x, String want) {
    Checks.due("job 0 at " + x.getClock(), Checks.job(x, 0), want);
  }

  // ---- refusal and clock ----

  private static void stepTooSmall() {
    CronEngine x = withJob(3, "* * * * *", ALL, ALLOW);
    for (int clock : new int[] {0, 1, 1440, MAXT - 1}) {
      if (clock > 0) {
        x.advance(clock - x.getClock());
      }
      String before = Checks.state(x);
      for (int n : new int[] {0, -1, -2, -clock, -clock - 1, -MAXT, Integer.MIN_VALUE + 1, Integer.MIN_VALUE}) {
        advances(x, n, -1);
        Checks.due("the state after advance(" + n + ")", Checks.state(x), before);
      }
    }
    CronEngine y = withJob(3, "* * * * *", ALL, ALLOW);
    advances(y, 1, 1);
  }

  private static void clockAtItsEnd() {
    CronEngine x = withJob(3, "* * * * *", ALL, ALLOW);
    x.advance(MAXT - 1);
    advances(x, 1, 1);
    String before = Checks.state(x);
    for (int n : new int[] {1, 2, 1440, MAXT, MAXT + 1, Integer.MAX_VALUE, 0, -1, Integer.MIN_VALUE}) {
      advances(x, n, -1);
      Checks.due("the state after advance(" + n + ")", Checks.state(x), before);
    }
  }

  private static void stepBeyondTheEnd() {
    for (int clock : new int[] {0, 1, 1440, MAXT - 2, MAXT - 1}) {
      for (int more : new int[] {1, 2, 59, 1440, MAXT}) {
        CronEngine x = atClock(clock);
        advances(x, MAXT - clock + more, 0);
        Checks.due("getClock()", x.getClock(), MAXT);
      }
    }
    CronEngine last = withJob(3, "59 23 31 12 *", SKIP, ALLOW);
    last.advance(MAXT - 1);
    advances(last, 2, 1);
    jobIs(last, "1 1 0 0 0 1 -1 1 0");
  }

  private static void stepWithinTheWindow() {
    for (int clock : new int[] {0, 1, 1440, MAXT - 3, MAXT - 2, MAXT - 1}) {
      CronEngine x = atClock(clock);
      advances(x, MAXT - clock, 0);
      Checks.due("getClock() after a step to the end", x.getClock(), MAXT);
      if (clock < MAXT - 1) {
        CronEngine y = atClock(clock);
        advances(y, MAXT - clock - 1, 0);
        Checks.due("getClock() after a step to the minute before", y.getClock(), MAXT - 1);
      }
      CronEngine z = atClock(clock);
      advances(z, 1, 0);
      Checks.due("getClock() after advance(1)", z.getClock(), clock + 1);
    }
  }

  private static void clockNeverPasses() {
    for (int n : new int[] {1000000, 4206238, MAXT, MAXT + 1, 1 << 30, Integer.MAX_VALUE}) {
      CronEngine x = new CronEngine(1);
      for (int i = 0; i < 6; i++) {
        x.advance(n);
        Checks.due("getClock() is at most MAXT", x.getClock() <= MAXT && x.getClock() > 0, true);
      }
      Checks.due("getClock() after six times advance(" + n + ")", x.getClock(), MAXT);
    }
  }

  private static void noOverflow() {
    for (int clock : new int[] {0, 1, 1440, MAXT / 2, MAXT - 1}) {
      // The sum of clock and step passes the greatest int, or just does not.
      int[] steps = {
        Integer.MAX_VALUE, Integer.MAX_VALUE - 1, Integer.MAX_VALUE - clock, Integer.MAX_VALUE - Math.max(clock - 1, 0)
      };
      for (int n : steps) {
        CronEngine x = withJob(3, "59 23 31 12 *", SKIP, ALLOW);
        x.advance(clock);
        advances(x, n, 1);
        Checks.due("getClock()", x.getClock(), MAXT);
      }
    }
  }

  private static void clockMovesWithoutJobs() {
    CronEngine x = new CronEngine(1);
    int clock = 0;
    for (int n : new int[] {1, 1, 58, 60, 1440, 100000, 7}) {
      clock += n;
      advances(x, n, 0);
      Checks.due("getClock()", x.getClock(), clock);
    }
    CronEngine y = withJob(3, "* * * * *", ONCE, FORBID);
    advances(y, 77, 1);
    Checks.due("getClock() with a job", y.getClock(), 77);
    Checks.due("S_NEXT from the new clock", y.jobStat(0, CronEngine.S_NEXT), 78);
  }

  // ---- the jobs ----

  private static void everyOccupiedSlot() {
    for (int taken = 1; taken < 256; taken++) {
      CronEngine x = States.withFullTable(1, "* * * * *");
      for (int slot = 0; slot < 8; slot++) {
        if ((taken >> slot & 1) == 0) {
          x.removeJob(slot);
        }
      }
      advances(x, 1, Integer.bitCount(taken));
      for (int slot = 0; slot < 8; slot++) {
        int want = (taken >> slot & 1) == 0 ? -1 : 1;
        Checks.due("S_STARTED of slot " + slot, x.jobStat(slot, CronEngine.S_STARTED), want);
      }
    }
  }

  private static void openAndClosedEnd() {
    CronEngine x = withJob(8, "*/10 * * * *", ALL, ALLOW);
    // Time 0 matches and is the clock: it lies outside.
    advances(x, 9, 0);
    // To 10: its own end lies inside.
    advances(x, 1, 1);
    // From 10: its own start lies outside.
    advances(x, 1, 0);
    advances(x, 8, 0);
    // From 19 to 21: 20 lies inside.
    advances(x, 2, 1);
    advances(x, 9, 1);
    // From 30 to 50: 40 and 50.
    advances(x, 20, 2);
    // From 50 to 59, then to 60.
    advances(x, 9, 0);
    advances(x, 1, 1);
    CronEngine last = withJob(8, "* * * * *", ALL, ALLOW);
    last.advance(MAXT - 2);
    advances(last, 5, 2);
    CronEngine zero = withJob(8, "0 0 1 1 *", ALL, ALLOW);
    advances(zero, MAXT, 7);
  }

  /** The first minute of each month, and of some days, as the new clock, as the old one and between the two. */
  private static void turnsOfTheCalendar() {
    for (int year = 2096; year <= 2103; year++) {
      for (int month = year == 2096 ? 2 : 1; month <= 12; month++) {
        turn("0 0 1 * *", Checks.at(year, month, 1, 0, 0));
      }
    }
    turn("0 0 2 1 *", Checks.at(2096, 1, 2, 0, 0));
    turn("0 0 29 2 *", Checks.at(2096, 2, 29, 0, 0));
    turn("0 0 31 12 *", Checks.at(2103, 12, 31, 0, 0));
    turn("0 0 * * SUN", Checks.at(2096, 1, 8, 0, 0));
    turn("59 23 31 * *", Checks.at(2096, 1, 31, 23, 59));
    turn("58 23 31 12 *", MAXT - 1);
  }

  private static void turn(String text, int time) {
    for (int misfire = 0; misfire <= 2; misfire++) {
      CronEngine x = withJob(8, text, misfire, ALLOW);
      x.advance(time - 1);
      int missed = x.jobStat(0, CronEngine.S_MISFIRES);
      advances(x, 1, 1);
      Checks.due("misfires at a time that is met", x.jobStat(0, CronEngine.S_MISFIRES), missed);
      advances(x, 1, 0);
      CronEngine y = withJob(8, text, misfire, ALLOW);
      y.advance(time - 1);
      advances(y, 2, misfire == SKIP ? 0 : 1);
      Checks.due("misfires at a time that is passed", y.jobStat(0, CronEngine.S_MISFIRES), missed + 1);
    }
  }

  private static void misfires() {
    for (int misfire = 0; misfire <= 2; misfire++) {
      for (int concurrency = 0; concurrency <= 2; concurrency++) {
        CronEngine x = withJob(8, "0 * * * *", misfire, concurrency);
        misfiresAfter(x, 59, 0);
        // The first match is the new clock itself.
        misfiresAfter(x, 1, 0);
        misfiresAfter(x, 60, 0);
        // The only match, at 180, lies before the new clock 181.
        misfiresAfter(x, 61, 1);
        misfiresAfter(x, 59, 1);
        // Two matches, at 300 and 360, the second being the new clock.
        misfiresAfter(x, 120, 2);
        // Many matches count as one misfire.
        misfiresAfter(x, 6000, 3);
        misfiresAfter(x, 1, 3);
        CronEngine never = withJob(8, "0 0 31 2 *", misfire, concurrency);
        misfiresAfter(never, 1000000, 0);
        misfiresAfter(never, MAXT, 0);
        CronEngine end = withJob(8, "59 23 31 12 *", misfire, concurrency);
        misfiresAfter(end, Checks.at(2096, 12, 31, 23, 59), 0);
        misfiresAfter(end, MAXT, 1);
      }
    }
  }

  private static void misfiresAfter(CronEngine x, int n, int want) {
    int from = x.getClock();
    x.advance(n);
    Checks.due("misfires after advance(" + n + ") from " + from, x.jobStat(0, CronEngine.S_MISFIRES), want);
  }

  // ---- the triggers ----

  private static void fireOnce() {
    CronEngine x = withJob(8, "0 * * * *", ONCE, ALLOW);
    advances(x, 59, 0);
    advances(x, 1, 1);
    advances(x, 59, 0);
    advances(x, 2, 1);
    advances(x, 600, 1);
    advances(x, 100000, 1);
    CronEngine last = withJob(8, "59 23 31 12 *", ONCE, ALLOW);
    advances(last, MAXT, 1);
    CronEngine never = withJob(8, "0 0 31 2 *", ONCE, ALLOW);
    advances(never, MAXT, 0);
  }

  private static void skip() {
    CronEngine x = withJob(8, "0 * * * *", SKIP, ALLOW);
    advances(x, 59, 0);
    advances(x, 1, 1);
    advances(x, 61, 0);
    advances(x, 58, 0);
    advances(x, 1, 1);
    // Ten matches, the last of them being the new clock.
    advances(x, 600, 1);
    advances(x, 599, 0);
    advances(x, 1, 1);
    CronEngine last = withJob(8, "59 23 31 12 *", SKIP, ALLOW);
    advances(last, MAXT, 1);
    CronEngine before = withJob(8, "58 23 31 12 *", SKIP, ALLOW);
    advances(before, MAXT, 0);
    // Time 0 matches but is never reached.
    CronEngine zero = withJob(8, "0 0 1 1 *", SKIP, ALLOW);
    advances(zero, 1, 0);
  }

  private static void fireAll() {
    for (int cap = 1; cap <= 8; cap++) {
      for (int k = 0; k <= 10; k++) {
        CronEngine exact = withJob(cap, "*/5 * * * *", ALL, ALLOW);
        if (k > 0) {
          advances(exact, 5 * k, Math.min(k, cap));
        }
        CronEngine beyond = withJob(cap, "*/5 * * * *", ALL, ALLOW);
        advances(beyond, 5 * k + 4, Math.min(k, cap));
      }
      CronEngine far = withJob(cap, "* * * * *", ALL, ALLOW);
      advances(far, MAXT, cap);
      CronEngine next = withJob(cap, "* * * * *", ALL, ALLOW);
      advances(next, 100, cap);
      advances(next, 100, cap);
      Checks.due("S_RUNNING may pass the cap", next.jobStat(0, CronEngine.S_RUNNING), 2 * cap);
    }
    for (int cap : new int[] {0, -5, Integer.MIN_VALUE}) {
      advances(withJob(cap, "* * * * *", ALL, ALLOW), 100, 1);
    }
    for (int cap : new int[] {9, 100, Integer.MAX_VALUE}) {
      advances(withJob(cap, "* * * * *", ALL, ALLOW), 100, 8);
    }
  }

  private static void noTriggerNoChange() {
    for (int misfire = 0; misfire <= 2; misfire++) {
      for (int concurrency = 0; concurrency <= 2; concurrency++) {
        CronEngine x = withJob(8, "0 * * * *", misfire, concurrency);
        advances(x, 59, 0);
        jobIs(x, "0 0 0 0 0 0 60 " + misfire + " " + concurrency);
        advances(x, 1, 1);
        jobIs(x, "1 1 0 0 0 0 120 " + misfire + " " + concurrency);
        advances(x, 59, 0);
        jobIs(x, "1 1 0 0 0 0 120 " + misfire + " " + concurrency);
      }
    }
    CronEngine skipping = withJob(8, "0 * * * *", SKIP, REPLACE);
    advances(skipping, 60, 1);
    advances(skipping, 61, 0);
    jobIs(skipping, "1 1 0 0 0 1 180 1 2");
  }

  private static void allow() {
    CronEngine x = withJob(8, "* * * * *", ALL, ALLOW);
    advances(x, 1, 1);
    jobIs(x, "1 1 0 0 0 0 2 2 0");
    advances(x, 3, 3);
    jobIs(x, "4 4 0 0 0 1 5 2 0");
    x.complete(0);
    advances(x, 1, 1);
    jobIs(x, "4 5 1 0 0 1 6 2 0");
  }

  private static void forbidWhileRunning() {
    CronEngine x = withJob(8, "* * * * *", ALL, FORBID);
    // Of five triggers in one call the first runs and forbids the other four.
    advances(x, 5, 1);
    jobIs(x, "1 1 0 4 0 1 6 2 1");
    advances(x, 1, 0);
    jobIs(x, "1 1 0 5 0 1 7 2 1");
    advances(x, 100, 0);
    jobIs(x, "1 1 0 13 0 2 107 2 1");
  }

  private static void forbidWithNothingRunning() {
    CronEngine x = withJob(8, "* * * * *", ONCE, FORBID);
    advances(x, 1, 1);
    x.complete(0);
    advances(x, 1, 1);
    jobIs(x, "1 2 1 0 0 0 3 0 1");
    x.complete(0);
    advances(x, 50, 1);
    jobIs(x, "1 3 2 0 0 1 53 0 1");
  }

  private static void replaceWhileRunning() {
    CronEngine x = withJob(8, "* * * * *", ALL, REPLACE);
    // Of five triggers in one call each but the first replaces the run before it.
    advances(x, 5, 5);
    jobIs(x, "1 5 0 0 4 1 6 2 2");
    advances(x, 1, 1);
    jobIs(x, "1 6 0 0 5 1 7 2 2");
    advances(x, 100, 8);
    jobIs(x, "1 14 0 0 13 2 107 2 2");
  }

  private static void replaceInEitherCase() {
    CronEngine x = withJob(8, "* * * * *", ONCE, REPLACE);
    advances(x, 1, 1);
    jobIs(x, "1 1 0 0 0 0 2 0 2");
    x.complete(0);
    advances(x, 1, 1);
    jobIs(x, "1 2 1 0 0 0 3 0 2");
    advances(x, 1, 1);
    jobIs(x, "1 3 1 0 1 0 4 0 2");
  }

  // ---- the answer and the rest ----

  private static void sum() {
    CronEngine x = States.withFullTable(5, "* * * * *");
    // Slots 0, 3 and 6 allow, 1, 4 and 7 forbid, 2 and 5 replace.
    advances(x, 1, 8);
    advances(x, 10, 3 * 5 + 2 * 5);
    x.complete(1);
    advances(x, 2, 3 * 2 + 1 + 2 * 2);
    int started = 0;
    for (int slot = 0; slot < 8; slot++) {
      started += x.jobStat(slot, CronEngine.S_STARTED);
    }
    Checks.due("all that started", started, 8 + 25 + 11);
    CronEngine forbidden = withJob(5, "* * * * *", ALL, FORBID);
    advances(forbidden, 1, 1);
    advances(forbidden, 10, 0);
  }

  private static void noJobs() {
    CronEngine x = new CronEngine(8);
    advances(x, 1, 0);
    Checks.compiles(x, "* * * * *");
    advances(x, 1000, 0);
    x.addJob(2, 0);
    x.removeJob(0);
    advances(x, 1000, 0);
    advances(x, MAXT, 0);
  }

  private static void theRestStays() {
    for (int n : new int[] {1, 60, 100000, MAXT}) {
      CronEngine x = States.withJobs(3, 8);
      x.removeJob(2);
      x.removeJob(7);
      Checks.type(x, "5 4 3");
      String schedule = Checks.staged(x);
      x.advance(n);
      Checks.due("the sets after advance(" + n + ")", Checks.staged(x), schedule);
      Checks.due("textLength() after advance(" + n + ")", x.textLength(), 5);
      Checks.due("the empty slot 2", Checks.job(x, 2), Checks.EMPTY_SLOT);
      Checks.due("the empty slot 7", Checks.job(x, 7), Checks.EMPTY_SLOT);
      for (int slot : new int[] {0, 1, 3, 4, 5, 6}) {
        Checks.due("S_MISFIRE_POLICY of " + slot, x.jobStat(slot, CronEngine.S_MISFIRE_POLICY), 2 - slot % 3);
        Checks.due("S_CONCURRENCY_POLICY of " + slot, x.jobStat(slot, CronEngine.S_CONCURRENCY_POLICY),
            (slot + slot / 3) % 3);
        // A job's schedule shows in its next time: a fresh object of the same text must agree.
        CronEngine fresh = Checks.withStaged(1, States.JOB_TEXTS[slot % 4]);
        Checks.due("S_NEXT of " + slot, x.jobStat(slot, CronEngine.S_NEXT), fresh.nextFire(x.getClock()));
      }
      Checks.type(x, " 2 1");
      Checks.due("compile() of a text typed around advance", x.compile(), true);
      Checks.due("the sets of that text", Checks.staged(x), "[5][4][3][2][1]");
    }
  }

  private static void timeEndsNoRun() {
    for (int concurrency = 0; concurrency <= 2; concurrency++) {
      CronEngine x = withJob(4, "0 0 29 2 *", ONCE, concurrency);
      advances(x, 84960, 1);
      jobIs(x, "1 1 0 0 0 0 -1 0 " + concurrency);
      advances(x, 1, 0);
      advances(x, 1000000, 0);
      advances(x, MAXT, 0);
      jobIs(x, "1 1 0 0 0 0 -1 0 " + concurrency);
      Checks.due("complete(0) at the last time", x.complete(0), true);
    }
  }

  private static void whatEndsARun() {
    CronEngine x = withJob(4, "* * * * *", ALL, ALLOW);
    advances(x, 4, 4);
    x.complete(0);
    jobIs(x, "3 4 1 0 0 1 5 2 0");
    CronEngine y = withJob(4, "* * * * *", ALL, REPLACE);
    advances(y, 1, 1);
    advances(y, 1, 1);
    jobIs(y, "1 2 0 0 1 0 3 2 2");
    x.removeJob(0);
    x.addJob(ALL, ALLOW);
    jobIs(x, "0 0 0 0 0 0 5 2 0");
    // A trigger that is forbidden ends nothing.
    CronEngine z = withJob(4, "* * * * *", ALL, FORBID);
    advances(z, 9, 1);
    jobIs(z, "1 1 0 3 0 1 10 2 1");
  }
}
