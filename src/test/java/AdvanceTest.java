/** Promise 13: advance. */
public final class AdvanceTest {
  private static final int MAXT = CronEngine.MAXT;
  private static final int ONCE = CronEngine.MIS_FIRE_ONCE;
  private static final int SKIP = CronEngine.MIS_SKIP;
  private static final int ALL = CronEngine.MIS_FIRE_ALL;
  private static final int ALLOW = CronEngine.CON_ALLOW;
  private static final int FORBID = CronEngine.CON_FORBID;
  private static final int REPLACE = CronEngine.CON_REPLACE;

  public static void main(String[] args) {
    checkRefused();
    checkClockStopsAtTheEnd();
    checkInterval();
    checkMisfires();
    checkFireOnce();
    checkSkip();
    checkFireAll();
    checkAllow();
    checkForbid();
    checkReplace();
    checkSum();
    checkTheRestStays();
    checkTimeEndsNoRun();
    checkMinuteByMinute();
    Checks.end();
  }

  private static CronEngine withJob(int cap, String text, int misfire, int concurrency) {
    CronEngine x = Checks.withStaged(cap, text);
    Checks.due("addJob", x.addJob(misfire, concurrency), 0);
    return x;
  }

  private static void checkRefused() {
    CronEngine x = withJob(3, "* * * * *", ALL, ALLOW);
    x.advance(7);
    Checks.type(x, "1");
    String before = Checks.state(x);
    for (int n : new int[] {0, -1, -2, -MAXT, Integer.MIN_VALUE, Integer.MIN_VALUE + 1}) {
      Checks.due("advance(" + n + ")", x.advance(n), -1);
    }
    Checks.due("the state after refused calls", Checks.state(x), before);
    x.advance(MAXT);
    String atEnd = Checks.state(x);
    for (int n : new int[] {1, 2, 0, -1, MAXT, Integer.MAX_VALUE, Integer.MIN_VALUE}) {
      Checks.due("advance(" + n + ") at the end", x.advance(n), -1);
    }
    Checks.due("the state after refused calls at the end", Checks.state(x), atEnd);
  }

  private static void checkClockStopsAtTheEnd() {
    int[] starts = {0, 1, 1000, MAXT - 2, MAXT - 1};
    for (int start : starts) {
      int left = MAXT - start;
      int[] steps = {left - 1, left, left + 1, left + 2, MAXT, MAXT + 1, Integer.MAX_VALUE - 1, Integer.MAX_VALUE};
      for (int n : steps) {
        CronEngine x = withJob(3, "59 23 31 12 *", SKIP, ALLOW);
        if (start > 0) {
          x.advance(start);
        }
        if (n >= 1) {
          Checks.due("advance(" + n + ") at " + start, x.advance(n), n >= left ? 1 : 0);
          Checks.due("getClock()", x.getClock(), Math.min((long) start + n, MAXT) == MAXT ? MAXT : start + n);
        }
      }
    }
  }

  /** The times that count lie after the old clock and up to the new one. */
  private static void checkInterval() {
    CronEngine x = withJob(8, "*/10 * * * *", ALL, ALLOW);
    int[] steps = {9, 1, 1, 8, 1, 10, 11, 9, 20};
    int[] due = {0, 1, 0, 0, 1, 1, 1, 1, 2};
    for (int i = 0; i < steps.length; i++) {
      Checks.due("advance(" + steps[i] + ") to " + (x.getClock() + steps[i]), x.advance(steps[i]), due[i]);
    }
    CronEngine y = withJob(8, "0 0 1 1 *", ALL, ALLOW);
    Checks.due("advance(MAXT) over seven new years", y.advance(MAXT), 7);
  }

  private static void checkMisfires() {
    for (int misfire = 0; misfire <= 2; misfire++) {
      for (int concurrency = 0; concurrency <= 2; concurrency++) {
        CronEngine x = withJob(3, "0 * * * *", misfire, concurrency);
        int[] steps = {59, 1, 60, 61, 58, 1, 61, 59, 600, 30, 1, 29, 1};
        // Clocks: 59 60 120 181 239 240 301 360 960 990 991 1020 1021.
        int[] misfires = {0, 0, 0, 1, 1, 1, 2, 2, 3, 3, 3, 3, 3};
        for (int i = 0; i < steps.length; i++) {
          x.advance(steps[i]);
          Checks.due("misfires at " + x.getClock() + " with policies " + misfire + ", " + concurrency,
              x.jobStat(0, CronEngine.S_MISFIRES), misfires[i]);
        }
      }
      CronEngine never = withJob(3, "0 0 31 2 *", misfire, ALLOW);
      never.advance(100000);
      never.advance(MAXT);
      Checks.due("misfires of a job that never fires", never.jobStat(0, CronEngine.S_MISFIRES), 0);
      CronEngine over = withJob(3, "0 0 29 2 *", misfire, ALLOW);
      over.advance(84960);
      over.advance(MAXT);
      Checks.due("misfires after the last fire time", over.jobStat(0, CronEngine.S_MISFIRES), 0);
    }
  }

  private static void checkFireOnce() {
    CronEngine x = withJob(8, "*/10 * * * *", ONCE, ALLOW);
    // Clocks: 9 10 19 21 30 130 225 230 235.
    int[] steps = {9, 1, 9, 2, 9, 100, 95, 5, 5};
    int[] due = {0, 1, 0, 1, 1, 1, 1, 1, 0};
    for (int i = 0; i < steps.length; i++) {
      Checks.due("once: advance(" + steps[i] + ") to " + (x.getClock() + steps[i]), x.advance(steps[i]), due[i]);
    }
    Checks.due("the job", Checks.job(x, 0), "6 6 0 0 0 3 240 0 0");
  }

  private static void checkSkip() {
    CronEngine x = withJob(8, "*/10 * * * *", SKIP, ALLOW);
    // Clocks: 9 10 19 21 30 130 225 230 235.
    int[] steps = {9, 1, 9, 2, 9, 100, 95, 5, 5};
    int[] due = {0, 1, 0, 0, 1, 1, 0, 1, 0};
    for (int i = 0; i < steps.length; i++) {
      Checks.due("skip: advance(" + steps[i] + ") to " + (x.getClock() + steps[i]), x.advance(steps[i]), due[i]);
    }
    Checks.due("the job", Checks.job(x, 0), "4 4 0 0 0 3 240 1 0");
  }

  private static void checkFireAll() {
    for (int cap = 1; cap <= 8; cap++) {
      for (int k = 0; k <= 12; k++) {
        for (int rest = 0; rest <= 9; rest += 9) {
          CronEngine x = withJob(cap, "*/10 * * * *", ALL, ALLOW);
          x.advance(5);
          x.advance(5);
          int n = k * 10 + rest;
          if (n >= 1) {
            Checks.due("all: advance(" + n + ") with cap " + cap, x.advance(n), Math.min(k, cap));
          }
        }
      }
    }
  }

  private static void checkAllow() {
    CronEngine x = withJob(3, "* * * * *", ALL, ALLOW);
    Checks.due("advance(2)", x.advance(2), 2);
    Checks.due("the job", Checks.job(x, 0), "2 2 0 0 0 1 3 2 0");
    Checks.due("advance(10)", x.advance(10), 3);
    Checks.due("the job", Checks.job(x, 0), "5 5 0 0 0 2 13 2 0");
    x.complete(0);
    Checks.due("advance(1)", x.advance(1), 1);
    Checks.due("the job", Checks.job(x, 0), "5 6 1 0 0 2 14 2 0");
  }

  private static void checkForbid() {
    CronEngine x = withJob(3, "* * * * *", ALL, FORBID);
    Checks.due("advance(1)", x.advance(1), 1);
    Checks.due("the job", Checks.job(x, 0), "1 1 0 0 0 0 2 2 1");
    Checks.due("advance(10)", x.advance(10), 0);
    Checks.due("the job", Checks.job(x, 0), "1 1 0 3 0 1 12 2 1");
    x.complete(0);
    Checks.due("advance(10) after complete", x.advance(10), 1);
    Checks.due("the job", Checks.job(x, 0), "1 2 1 5 0 2 22 2 1");
  }

  private static void checkReplace() {
    CronEngine x = withJob(3, "* * * * *", ALL, REPLACE);
    Checks.due("advance(1)", x.advance(1), 1);
    Checks.due("the job", Checks.job(x, 0), "1 1 0 0 0 0 2 2 2");
    Checks.due("advance(10)", x.advance(10), 3);
    Checks.due("the job", Checks.job(x, 0), "1 4 0 0 3 1 12 2 2");
    x.complete(0);
    Checks.due("advance(10) after complete", x.advance(10), 3);
    Checks.due("the job", Checks.job(x, 0), "1 7 1 0 5 2 22 2 2");
  }

  private static void checkSum() {
    CronEngine x = Checks.withStaged(4, "*/5 * * * *");
    Checks.due("advance(3) without a job", x.advance(3), 0);
    for (int slot = 0; slot < 8; slot++) {
      x.addJob(slot % 3, slot / 3);
    }
    x.removeJob(6);
    // To 25 by slot: once 1, skip 1, all 4; forbidding once 1, skip 1, all 1 and 3 dropped; replacing skip 1.
    Checks.due("advance(22)", x.advance(22), 10);
    Checks.due("dropped of the forbidding job", x.jobStat(5, CronEngine.S_DROPPED), 3);
    // To 36, no fire time: once 1, skip 0, all 2; the forbidding ones drop; replacing skip 0.
    Checks.due("advance(11)", x.advance(11), 3);
    Checks.due("the replacing job", Checks.job(x, 7), "1 1 0 0 0 2 40 1 2");
    // To 40: 1, 1, 1; dropped all three; 1.
    Checks.due("advance(4)", x.advance(4), 4);
    Checks.due("the replacing job", Checks.job(x, 7), "1 2 0 0 1 2 45 1 2");
  }

  private static void checkTheRestStays() {
    CronEngine x = Checks.withStaged(4, "*/5 * *,2 * 1-5");
    x.addJob(2, 0);
    x.addJob(1, 2);
    x.removeJob(0);
    Checks.type(x, "5 4 3");
    String schedule = Checks.staged(x);
    x.advance(100000);
    Checks.due("the sets after advance", Checks.staged(x), schedule);
    Checks.due("textLength() after advance", x.textLength(), 5);
    Checks.due("the empty slot after advance", Checks.job(x, 0), Checks.EMPTY_SLOT);
    Checks.due("S_MISFIRE_POLICY after advance", x.jobStat(1, CronEngine.S_MISFIRE_POLICY), 1);
    Checks.due("S_CONCURRENCY_POLICY after advance", x.jobStat(1, CronEngine.S_CONCURRENCY_POLICY), 2);
    Checks.type(x, " 2 1");
    Checks.due("compile() of a text typed around advance", x.compile(), true);
    Checks.due("the sets of that text", Checks.staged(x), "[5][4][3][2][1]");
  }

  private static void checkTimeEndsNoRun() {
    CronEngine x = withJob(4, "0 0 1 1 *", ONCE, ALLOW);
    x.advance(366 * 1440);
    Checks.due("running", x.jobStat(0, CronEngine.S_RUNNING), 1);
    x.advance(364 * 1440);
    Checks.due("running almost a year later", x.jobStat(0, CronEngine.S_RUNNING), 1);
    Checks.due("completed almost a year later", x.jobStat(0, CronEngine.S_COMPLETED), 0);
  }

  private static void checkMinuteByMinute() {
    for (int misfire = 0; misfire <= 2; misfire++) {
      CronEngine x = withJob(1, "*/20 6-8 * * 1,3", misfire, ALLOW);
      x.advance(Checks.at(2096, 2, 26, 0, 0));
      int startedBefore = x.jobStat(0, CronEngine.S_STARTED);
      int misfiresBefore = x.jobStat(0, CronEngine.S_MISFIRES);
      for (int i = 0; i < 14 * 1440; i++) {
        int due = x.jobStat(0, CronEngine.S_NEXT) == x.getClock() + 1 ? 1 : 0;
        Checks.due("advance(1) at " + x.getClock(), x.advance(1), due);
      }
      Checks.due("started in two weeks", x.jobStat(0, CronEngine.S_STARTED) - startedBefore, 36);
      Checks.due("misfires in two weeks", x.jobStat(0, CronEngine.S_MISFIRES) - misfiresBefore, 0);
    }
  }
}
