/** What each call answers, changes and leaves as it was, sentence by sentence, with a long run of calls behind it. */
public final class LongRunsTest {
  private static final int MAXT = CronEngine.MAXT;
  private static final int MAX_JOBS = CronEngine.MAX_JOBS;
  private static final int NONE = CronEngine.NONE;
  private static final int[] STEPS = {1, 2, 60, 1439, 1440, 10080, 44640, 600000, MAXT, Integer.MAX_VALUE};
  private static final String[] GOOD_TEXTS = {
    "* * * * *", "*/7 3 *,2 FEB-11/3 1", " 0  0 29 2  mon-7/2 ", "59 23 31 12 *"
  };
  private static final String[] WRONG_TEXTS = {
    "", "   ", "* * * *", "* * * * * *", "60 * * * *", "* * * * */0", "* * 5-4 * *"
  };

  public static void main(String[] args) {
    sentencesOnTheWhole();
    sentencesOnTheText();
    sentencesOnCompiling();
    sentencesOnQuestions();
    sentencesOnAdding();
    sentencesOnRemovingAndCompleting();
    sentencesOnAdvancing();
    sentencesOnStats();
    Checks.end();
  }

  private static void sentencesOnTheWhole() {
    Checks.under("What it is");
    Checks.sentence("Compiled schedules can be installed as jobs in a table of MAX_JOBS slots.",
        LongRunsTest::fillTheTable);
    Checks.sentence("A simulated clock jumps forward on request", LongRunsTest::onlyAdvanceMovesTheClock);
    Checks.sentence("Running drops only through `complete`, through a CON_REPLACE trigger (counted as cancelled), "
        + "or when the job is removed.", LongRunsTest::everyRunIsAccountedFor);
    Checks.sentence("Per-job counters show runs started, completed, dropped and cancelled, misfire events, "
        + "and the next due time.", LongRunsTest::countersGrowFar);
    Checks.under("State");
    Checks.sentence("A refused call answers as stated and changes nothing.", LongRunsTest::refusedCalls);
    Checks.under("Promise 1: Construction and initial state");
    Checks.sentence("`cap` never changes afterwards.", LongRunsTest::capStays);
  }

  private static void sentencesOnTheText() {
    Checks.under("Promise 2: clearText");
    Checks.sentence("This holds in every state, including when the text is already empty.", LongRunsTest::clearEmpties);
    Checks.sentence("The staged schedule, the jobs and the clock are unchanged.", LongRunsTest::clearLeavesTheRest);
    Checks.under("Promise 3: putChar");
    Checks.sentence("so the text length grows by one", LongRunsTest::lengthGrowsByOne);
    Checks.sentence("Nothing but the text changes.", LongRunsTest::putLeavesTheRest);
    Checks.under("Promise 4: textLength");
    Checks.sentence("answers the number of characters currently in the text", LongRunsTest::lengthAfterManyTexts);
  }

  private static void sentencesOnCompiling() {
    Checks.under("Promise 5: compile");
    Checks.sentence("`compile()` parses the current text per Syntax.", LongRunsTest::onlyTheCurrentText);
    Checks.sentence("with field sets and starred flags per Meaning. It answers true.", LongRunsTest::accepted);
    Checks.sentence("even if one existed before. It answers false.", LongRunsTest::rejected);
    Checks.sentence("Jobs are unchanged, including the schedule copies they hold.", LongRunsTest::compileLeavesTheJobs);
    Checks.sentence("The clock is unchanged.", LongRunsTest::compileLeavesTheClock);
  }

  private static void sentencesOnQuestions() {
    Checks.under("Promise 6: fieldHas");
    Checks.sentence("answers true iff all of these hold", LongRunsTest::fieldHasOfTheStaged);
    Checks.under("Promise 7: dayStarred");
    Checks.sentence("answers true iff all of these hold", LongRunsTest::dayStarredOfTheStaged);
    Checks.under("Promise 8: nextFire");
    Checks.sentence("Otherwise it answers `next(staged, t)`.", LongRunsTest::nextOfTheStaged);
    Checks.sentence("in particular, the clock is not involved", LongRunsTest::clockIsNotInvolved);
    Checks.under("Promise 9: makeTime");
    Checks.sentence("answers the time of `year-month-day` at minute `minuteOfDay` of that day",
        LongRunsTest::makeTimeAnswersTheSame);
    Checks.under("Promise 10: timeField");
    Checks.sentence("Otherwise it answers the part of `t` named by `which`, per Time",
        LongRunsTest::timeFieldAnswersTheSame);
    Checks.under("Promise 15: getClock");
    Checks.sentence("answers the clock, a value in 0..MAXT", LongRunsTest::clockOfEachMoment);
  }

  private static void sentencesOnAdding() {
    Checks.under("Promise 11: addJob");
    Checks.sentence("Otherwise the lowest empty slot receives a job", LongRunsTest::lowestEmptySlot);
    Checks.sentence("The staged schedule stays, so the same schedule can be added again.", LongRunsTest::addedAgain);
    Checks.sentence("Later compiles do not alter the job's copy.", LongRunsTest::laterCompiles);
    Checks.sentence("Only fire times after the clock at this moment ever concern the job.",
        LongRunsTest::onlyLaterTimes);
    Checks.sentence("The clock, the text and the other slots are unchanged.", LongRunsTest::addLeavesTheRest);
  }

  private static void sentencesOnRemovingAndCompleting() {
    Checks.under("Promise 12: removeJob");
    Checks.sentence("its job and counters are gone. It answers true.", LongRunsTest::removedIsGone);
    Checks.sentence("A later `addJob` may reuse the slot, starting with counters at 0.", LongRunsTest::slotUsedAgain);
    Checks.sentence("Other slots, the clock, the text and the staged schedule are unchanged.",
        LongRunsTest::removeLeavesTheRest);
    Checks.sentence("A later `addJob` may reuse the slot", LongRunsTest::slotsUsedAgainForLong);
    Checks.under("Promise 14: complete");
    Checks.sentence("running decreases by 1 and completed increases by 1, and it answers true",
        LongRunsTest::everyRunCompleted);
    Checks.sentence("Nothing else changes, including the clock.", LongRunsTest::completeLeavesTheRest);
  }

  private static void sentencesOnAdvancing() {
    Checks.under("Promise 13: advance");
    Checks.sentence("The clock becomes `c2`.", LongRunsTest::clockBecomes);
    Checks.sentence("Three steps follow.", LongRunsTest::threeStepsFromEachMoment);
    Checks.sentence("for each occupied slot in ascending order", LongRunsTest::throughTheWholeWindow);
    Checks.sentence("`T` times in turn, by the concurrency policy", LongRunsTest::jobsThatStay);
    Checks.sentence("The call answers the sum, over all jobs, of the increases of started in this call",
        LongRunsTest::answersTheSum);
    Checks.sentence("Policies, schedules, empty slots, the text and the staged schedule are unchanged.",
        LongRunsTest::advanceLeavesTheRest);
  }

  private static void sentencesOnStats() {
    Checks.under("Promise 16: jobStat");
    Checks.sentence("This is the value `nextFire(getClock())` would answer if the schedule staged when the job was "
        + "added were staged now.", LongRunsTest::nextAsIfStaged);
    Checks.sentence("It changes nothing.", LongRunsTest::questionsChangeNothing);
  }

  // ---- the whole ----

  private static void fillTheTable() {
    Moments.each(twin -> {
      twin.compiles("*/5 * * * *");
      int empty = MAX_JOBS - twin.jobs();
      for (int i = 0; i < empty; i++) {
        Checks.due("an added job has a slot", twin.addJob(2, i % 3) != -1, true);
      }
      Checks.due("jobs in a filled table", twin.jobs(), MAX_JOBS);
      Checks.due("addJob to a filled table", twin.addJob(2, 0), -1);
      twin.staysSame();
    });
  }

  private static void onlyAdvanceMovesTheClock() {
    Moments.each(twin -> {
      int clock = twin.getClock();
      twin.compiles("* * * * *");
      twin.compiles("wrong");
      for (int slot = 0; slot < MAX_JOBS; slot++) {
        twin.complete(slot);
        twin.removeJob(slot);
        twin.addJob(0, 0);
      }
      twin.nextFire(0);
      twin.advance(0);
      Checks.due("the clock after all calls but advance", twin.getClock(), clock);
      twin.advance(1);
      Checks.due("the clock after advance(1)", twin.getClock(), Math.min(clock + 1, MAXT));
    });
  }

  private static void everyRunIsAccountedFor() {
    Moments.eachJob((twin, slot) -> {
      for (int n : STEPS) {
        int ended = twin.jobStat(slot, CronEngine.S_COMPLETED) + twin.jobStat(slot, CronEngine.S_CANCELLED);
        Checks.due("running and ended runs", twin.jobStat(slot, CronEngine.S_RUNNING) + ended,
            twin.jobStat(slot, CronEngine.S_STARTED));
        twin.advance(n);
        twin.complete(slot);
      }
    });
  }

  /** Far beyond what a byte or a short holds. */
  private static void countersGrowFar() {
    int calls = 66000;
    CronEngine x = new CronEngine(8);
    Checks.compiles(x, "* * * * *");
    for (int concurrency = 0; concurrency <= 2; concurrency++) {
      x.addJob(CronEngine.MIS_FIRE_ALL, concurrency);
    }
    Checks.due("the first advance", x.advance(9), 17);
    for (int i = 1; i < calls; i++) {
      if (x.advance(9) != 16) {
        Checks.due("a later advance", "another answer at " + x.getClock(), "16 runs");
      }
    }
    for (int i = 0; i < calls; i++) {
      x.complete(0);
    }
    int all = 8 * calls;
    String rest = " " + calls + " " + (9 * calls + 1) + " 2 ";
    Checks.due("the allowing job", Checks.job(x, 0), (all - calls) + " " + all + " " + calls + " 0 0" + rest + 0);
    Checks.due("the forbidding job", Checks.job(x, 1), "1 1 0 " + (all - 1) + " 0" + rest + 1);
    Checks.due("the replacing job", Checks.job(x, 2), "1 " + all + " 0 0 " + (all - 1) + rest + 2);
  }

  private static void refusedCalls() {
    Moments.each(twin -> {
      for (int far : new int[] {Integer.MIN_VALUE, -1, MAX_JOBS, 64, 65536, Integer.MAX_VALUE}) {
        Checks.due("removeJob outside the table", twin.removeJob(far), false);
        Checks.due("complete outside the table", twin.complete(far), false);
        Checks.due("addJob with a wrong misfire policy", twin.addJob(far, 0), -1);
        Checks.due("addJob with a wrong concurrency policy", twin.addJob(0, far), -1);
      }
      for (int wrong : new int[] {Integer.MIN_VALUE, -1, 0, 31, 127, 128, Integer.MAX_VALUE}) {
        Checks.due("putChar of no character", twin.putChar(wrong), false);
        Checks.due("advance by nothing", twin.advance(Math.min(wrong, 0)), -1);
      }
      for (int slot = 0; slot < MAX_JOBS; slot++) {
        refusedOfASlot(twin, slot);
      }
      refusedAtABound(twin);
      twin.staysSame();
    });
  }

  private static void refusedOfASlot(Twin twin, int slot) {
    if (!twin.isJob(slot)) {
      Checks.due("removeJob of an empty slot", twin.removeJob(slot), false);
      Checks.due("complete of an empty slot", twin.complete(slot), false);
    } else if (twin.jobStat(slot, CronEngine.S_RUNNING) == 0) {
      Checks.due("complete with nothing running", twin.complete(slot), false);
    }
  }

  private static void refusedAtABound(Twin twin) {
    if (twin.jobs() == MAX_JOBS) {
      Checks.due("addJob to a full table", twin.addJob(0, 0), -1);
    }
    if (twin.textLength() == CronEngine.TEXT_CAP) {
      Checks.due("putChar to a full text", twin.putChar('1'), false);
    }
    if (twin.getClock() == MAXT) {
      Checks.due("advance(1) at the end", twin.advance(1), -1);
    }
  }

  private static void capStays() {
    for (int cap = 1; cap <= 8; cap++) {
      Twin twin = new Twin("cap " + cap + ": ", cap);
      RandomCalls calls = new RandomCalls(cap, twin, 10000);
      for (int round = 0; round < 20; round++) {
        capIs(cap, twin.copy());
        for (int i = 0; i < 50; i++) {
          calls.call();
        }
      }
    }
  }

  private static void capIs(int cap, Twin twin) {
    twin.removeJob(0);
    twin.compiles("* * * * *");
    int slot = twin.addJob(CronEngine.MIS_FIRE_ALL, CronEngine.CON_ALLOW);
    int minutes = Math.min(20, MAXT - twin.getClock());
    twin.advance(20);
    Checks.due("the runs of one advance", twin.jobStat(slot, CronEngine.S_STARTED), Math.min(cap, minutes));
  }

  // ---- promises 2 to 4 ----

  private static void clearEmpties() {
    Moments.each(twin -> {
      for (int i = 0; i < 2; i++) {
        twin.clearText();
        Checks.due("textLength() after clearText()", twin.textLength(), 0);
      }
      twin.type("1 2 3 4 5");
      Checks.due("compile() of what was typed after it", twin.compile(), true);
      twin.stagedLooksSame();
    });
  }

  private static void clearLeavesTheRest() {
    Moments.each(twin -> {
      twin.clearText();
      twin.staysSame();
    });
  }

  private static void lengthGrowsByOne() {
    Moments.each(twin -> {
      int length = twin.textLength();
      for (int c = 32; c <= 126; c++) {
        boolean taken = twin.putChar(c);
        Checks.due("putChar(" + c + ") with " + length + " characters", taken, length < CronEngine.TEXT_CAP);
        length += taken ? 1 : 0;
        Checks.due("textLength()", twin.textLength(), length);
      }
    });
  }

  private static void putLeavesTheRest() {
    Moments.each(twin -> {
      twin.type(" */2,9");
      twin.staysSame();
    });
  }

  private static void lengthAfterManyTexts() {
    Twin twin = new Twin("", 1);
    for (int i = 0; i < 1000; i++) {
      int length = i * 37 % (CronEngine.TEXT_CAP + 1);
      twin.type("*".repeat(length));
      Checks.due("textLength() of text " + i, twin.textLength(), length);
      if (i % 3 == 0) {
        twin.compile();
      } else {
        twin.clearText();
      }
      Checks.due("textLength() after text " + i, twin.textLength(), 0);
    }
  }

  // ---- promise 5 ----

  /** What earlier texts left behind the end of this one does not count, and nothing does behind the last place. */
  private static void onlyTheCurrentText() {
    Twin twin = new Twin("", 1);
    for (String text : new String[] {"* * * * 1,2-5/3,*/2", "0 1 2-3/4 * mon-fri/2,SUN", "1 2 3 JAN-DEC/12 *,7"}) {
      for (int end = 0; end <= text.length(); end++) {
        String part = text.substring(0, end);
        for (char earlier : "*,-/ 05MNImni".toCharArray()) {
          stagesAfter(earlier, part, twin);
        }
        stagesAfter(' ', " ".repeat(CronEngine.TEXT_CAP - end) + part, twin);
      }
    }
  }

  private static void stagesAfter(char earlier, String text, Twin twin) {
    twin.type(String.valueOf(earlier).repeat(CronEngine.TEXT_CAP));
    twin.clearText();
    twin.type(text);
    twin.compile();
    twin.stagedLooksSame();
  }

  private static void accepted() {
    Moments.each(twin -> {
      for (String text : GOOD_TEXTS) {
        Checks.due("compile of '" + text + "'", twin.compiles(text), true);
        Checks.due("textLength() after it", twin.textLength(), 0);
        twin.stagedLooksSame();
      }
      twin.staysSame();
    });
  }

  private static void rejected() {
    Moments.each(twin -> {
      for (String text : WRONG_TEXTS) {
        Checks.due("compile of '" + text + "'", twin.compiles(text), false);
        Checks.due("textLength() after it", twin.textLength(), 0);
        Checks.due("nextFire(0) after it", twin.nextFire(0), NONE);
        Checks.due("addJob after it", twin.addJob(0, 0), -1);
        twin.stagedLooksSame();
        twin.compiles("* * * * *");
      }
      twin.compiles("wrong");
      twin.staysSame();
    });
  }

  private static void compileLeavesTheJobs() {
    Moments.each(twin -> {
      twin.compile();
      twin.staysSame();
      for (int i = 0; i < 100; i++) {
        twin.compiles(i % 2 == 0 ? GOOD_TEXTS[i % 4] : WRONG_TEXTS[i % 7]);
      }
      twin.staysSame();
    });
  }

  private static void compileLeavesTheClock() {
    Moments.each(twin -> {
      int clock = twin.getClock();
      twin.compile();
      Checks.due("the clock after compile()", twin.getClock(), clock);
      twin.compiles("* * * * *");
      Checks.due("the clock after an accepted compile()", twin.getClock(), clock);
    });
  }

  // ---- promises 6 to 10 and 15 ----

  private static void fieldHasOfTheStaged() {
    Moments.each(twin -> {
      twin.stagedLooksSame();
      twin.compiles("0,59 23 1-2 */11 sat,7");
      int[][] values = {{0, 59}, {23}, {1, 2}, {1, 12}, {0, 6}};
      for (int field = 0; field < 5; field++) {
        for (int v : values[field]) {
          Checks.due("fieldHas(" + field + ", " + v + ")", twin.fieldHas(field, v), true);
        }
      }
      twin.staysSame();
    });
  }

  private static void dayStarredOfTheStaged() {
    Moments.each(twin -> {
      for (int stars = 0; stars < 4; stars++) {
        twin.compiles("* * " + (stars / 2 == 1 ? "*/2" : "2,*") + " * " + (stars % 2 == 1 ? "*,1" : "1,*"));
        Checks.due("dayStarred(F_DOM)", twin.dayStarred(CronEngine.F_DOM), stars / 2 == 1);
        Checks.due("dayStarred(F_DOW)", twin.dayStarred(CronEngine.F_DOW), stars % 2 == 1);
      }
      twin.staysSame();
    });
  }

  private static void nextOfTheStaged() {
    Moments.each(twin -> {
      int clock = twin.getClock();
      for (int t : new int[] {0, clock - 1, clock, clock + 1, MAXT - clock, MAXT - 1, MAXT}) {
        twin.nextFire(t);
      }
      for (String text : GOOD_TEXTS) {
        twin.compiles(text);
        twin.nextFire(clock);
        twin.nextFire(MAXT - clock);
      }
      twin.staysSame();
    });
  }

  private static void clockIsNotInvolved() {
    CronEngine fresh = Checks.withStaged(1, "30 6 13 * 5");
    Moments.each(twin -> {
      twin.compiles("30 6 13 * 5");
      for (int t = 0; t <= MAXT; t += 100003) {
        Checks.due("nextFire(" + t + ") at the clock " + twin.getClock(), twin.nextFire(t), fresh.nextFire(t));
      }
    });
  }

  private static void makeTimeAnswersTheSame() {
    Moments.each(twin -> {
      for (int year = 2095; year <= 2104; year++) {
        for (int month = 0; month <= 13; month++) {
          twin.makeTime(year, month, 1, 0);
          twin.makeTime(year, month, 29, 1439);
          twin.makeTime(year, month, 31, 1440);
        }
      }
      twin.staysSame();
    });
  }

  private static void timeFieldAnswersTheSame() {
    Moments.each(twin -> {
      int clock = twin.getClock();
      for (int t : new int[] {-1, 0, clock - 1, clock, clock + 1, MAXT - clock, MAXT, MAXT + 1}) {
        for (int which = -1; which <= 6; which++) {
          twin.timeField(t, which);
        }
      }
      twin.staysSame();
    });
  }

  private static void clockOfEachMoment() {
    int[] thirds = new int[3];
    Moments.each(twin -> {
      int clock = twin.getClock();
      Checks.due("a clock in 0..MAXT", clock >= 0 && clock <= MAXT, true);
      thirds[Math.min(2, clock / (MAXT / 3))]++;
      twin.staysSame();
    });
    for (int count : thirds) {
      Checks.due("enough moments in each third of the window", count >= 20, true);
    }
  }

  // ---- promise 11 ----

  private static void lowestEmptySlot() {
    Moments.each(twin -> {
      twin.compiles("*/3 * * * *");
      for (int a = 0; a < MAX_JOBS; a++) {
        for (int b = a; b < MAX_JOBS; b++) {
          twin.removeJob(b);
          twin.removeJob(a);
          int lowest = 0;
          while (twin.isJob(lowest)) {
            lowest++;
          }
          Checks.due("addJob", twin.addJob(a % 3, b % 3), lowest);
          twin.addJob(b % 3, a % 3);
        }
      }
      twin.staysSame();
    });
  }

  private static void addedAgain() {
    Moments.each(twin -> {
      twin.compiles("*/7 3-9 */2 * *");
      for (int i = 0; i < 20; i++) {
        twin.removeJob(i * 3 % MAX_JOBS);
        twin.addJob(i % 3, i / 3 % 3);
      }
      twin.stagedLooksSame();
      for (int slot = 0; slot < MAX_JOBS; slot++) {
        twin.removeJob(slot);
        Checks.due("addJob into slot " + slot, twin.addJob(2, 0), slot);
        Checks.due("S_NEXT of the job", twin.jobStat(slot, CronEngine.S_NEXT), twin.nextFire(twin.getClock()));
      }
      twin.staysSame();
    });
  }

  private static void laterCompiles() {
    Moments.each(twin -> {
      twin.removeJob(4);
      twin.compiles("*/9 5 1-20 */2 1");
      int slot = twin.addJob(CronEngine.MIS_FIRE_ALL, CronEngine.CON_ALLOW);
      int next = twin.nextFire(twin.getClock());
      for (String text : GOOD_TEXTS) {
        twin.compiles(text);
        Checks.due("S_NEXT after the compile of '" + text + "'", twin.jobStat(slot, CronEngine.S_NEXT), next);
        twin.compiles("wrong");
        Checks.due("S_NEXT after a rejected compile", twin.jobStat(slot, CronEngine.S_NEXT), next);
      }
      twin.staysSame();
    });
  }

  private static void onlyLaterTimes() {
    Moments.each(twin -> {
      int clock = twin.getClock();
      if (clock == MAXT) {
        return;
      }
      twin.removeJob(0);
      twin.compiles(clock % 60 + " " + clock / 60 % 24 + " * * *");
      int slot = twin.addJob(CronEngine.MIS_FIRE_ALL, CronEngine.CON_ALLOW);
      twin.advance(1439);
      Checks.due("started before the time comes again", twin.jobStat(slot, CronEngine.S_STARTED), 0);
      Checks.due("misfires before the time comes again", twin.jobStat(slot, CronEngine.S_MISFIRES), 0);
      int runs = twin.getClock() < MAXT ? 1 : 0;
      twin.advance(1);
      Checks.due("started a day after", twin.jobStat(slot, CronEngine.S_STARTED), runs);
    });
  }

  private static void addLeavesTheRest() {
    Moments.each(twin -> {
      twin.addJob(1, 2);
      twin.staysSame();
      twin.removeJob(6);
      twin.addJob(2, 1);
      twin.staysSame();
    });
  }

  // ---- promises 12 and 14 ----

  private static void removedIsGone() {
    Moments.eachJob((twin, slot) -> {
      int jobs = twin.jobs();
      Checks.due("removeJob(" + slot + ")", twin.removeJob(slot), true);
      Checks.due("jobs after removeJob", twin.jobs(), jobs - 1);
      for (int which = 0; which <= 8; which++) {
        Checks.due("jobStat(" + slot + ", " + which + ") after removeJob", twin.jobStat(slot, which), -1);
      }
      Checks.due("complete(" + slot + ") after removeJob", twin.complete(slot), false);
      Checks.due("removeJob(" + slot + ") again", twin.removeJob(slot), false);
      twin.advance(5000);
      twin.jobsLookSame();
    });
  }

  private static void slotUsedAgain() {
    Moments.eachJob((twin, slot) -> {
      while (twin.jobs() < MAX_JOBS) {
        twin.compiles("* * * * *");
        twin.addJob(2, 0);
      }
      twin.compiles("*/2 * * * *");
      for (int round = 0; round < 3; round++) {
        twin.removeJob(slot);
        Checks.due("addJob into the freed slot", twin.addJob(2, round), slot);
        for (int which = CronEngine.S_RUNNING; which <= CronEngine.S_MISFIRES; which++) {
          Checks.due("counter " + which + " of the new job", twin.jobStat(slot, which), 0);
        }
        twin.advance(11);
        twin.complete(slot);
      }
      twin.jobsLookSame();
    });
  }

  private static void slotsUsedAgainForLong() {
    Twin twin = new Twin("slots used again: ", 5);
    twin.compiles("*/3 * * * *");
    for (int round = 0; round < 2000; round++) {
      twin.removeJob(round * 3 % MAX_JOBS);
      twin.addJob(round % 3, round / 3 % 3);
      twin.jobsLookSame();
      twin.advance(round % 20 + 1);
      twin.complete(round % MAX_JOBS);
    }
    twin.staysSame();
  }

  private static void removeLeavesTheRest() {
    Moments.eachJob((twin, slot) -> {
      twin.removeJob(slot);
      twin.staysSame();
    });
  }

  private static void everyRunCompleted() {
    Moments.eachJob((twin, slot) -> {
      int running = twin.jobStat(slot, CronEngine.S_RUNNING);
      int completed = twin.jobStat(slot, CronEngine.S_COMPLETED);
      for (int i = 1; i <= running; i++) {
        Checks.due("complete(" + slot + ")", twin.complete(slot), true);
        Checks.due("running", twin.jobStat(slot, CronEngine.S_RUNNING), running - i);
        Checks.due("completed", twin.jobStat(slot, CronEngine.S_COMPLETED), completed + i);
      }
      Checks.due("complete(" + slot + ") with nothing running", twin.complete(slot), false);
      twin.jobsLookSame();
    });
  }

  private static void completeLeavesTheRest() {
    Moments.eachJob((twin, slot) -> {
      twin.complete(slot);
      twin.staysSame();
    });
  }

  // ---- promise 13 ----

  private static void clockBecomes() {
    Moments.each(twin -> {
      for (int n : STEPS) {
        Twin moved = twin.copy();
        moved.advance(n);
        Checks.due("the clock after advance(" + n + ")", (long) moved.getClock(),
            Math.min((long) twin.getClock() + n, MAXT));
      }
    });
  }

  private static void threeStepsFromEachMoment() {
    Moments.each(twin -> {
      for (int n : STEPS) {
        Twin moved = twin.copy();
        moved.advance(n);
        moved.jobsLookSame();
      }
      for (int slot = 0; slot < MAX_JOBS; slot++) {
        stepsAround(twin, twin.jobStat(slot, CronEngine.S_NEXT));
      }
    });
  }

  private static void stepsAround(Twin twin, int time) {
    for (int beside = -1; beside <= 1; beside++) {
      int n = time + beside - twin.getClock();
      if (time != NONE && n > 0) {
        Twin moved = twin.copy();
        moved.advance(n);
        moved.jobsLookSame();
        moved.advance(1);
        moved.jobsLookSame();
      }
    }
  }

  /** From the first minute to the last, in steps of up to two days, with slots removed and filled on the way. */
  private static void throughTheWholeWindow() {
    Twin twin = new Twin("through the window: ", 3);
    RandomCalls calls = new RandomCalls(7, twin, MAXT);
    while (twin.getClock() < MAXT) {
      if (calls.chance(10)) {
        twin.clearText();
        calls.compileText();
        twin.removeJob(calls.pick(0, 7));
      }
      calls.addJob();
      twin.complete(calls.pick(0, 7));
      twin.advance(calls.pick(1, 2880));
      twin.jobsLookSame();
    }
    twin.staysSame();
  }

  /** Jobs of eight mixes of the policies, each with thousands of triggers behind it at the end. */
  private static void jobsThatStay() {
    for (int first = 0; first <= 1; first++) {
      Twin twin = new Twin("jobs that stay: ", 4);
      twin.compiles("*/10 * * * *");
      for (int slot = 0; slot < MAX_JOBS; slot++) {
        twin.addJob((first + slot) / 3 % 3, (first + slot) % 3);
      }
      for (int step = 0; step < 4000; step++) {
        twin.advance(step * 7 % 31 + 1);
        twin.complete(step % 11);
        twin.jobsLookSame();
      }
      twin.staysSame();
    }
  }

  private static void answersTheSum() {
    Moments.each(twin -> {
      int before = allStarted(twin);
      int sum = 0;
      for (int n : new int[] {1, 10, 100, 1000, 10000, 100000}) {
        sum += Math.max(0, twin.advance(n));
      }
      Checks.due("the sum of the answers", sum, allStarted(twin) - before);
    });
  }

  private static int allStarted(Twin twin) {
    int all = 0;
    for (int slot = 0; slot < MAX_JOBS; slot++) {
      all += Math.max(0, twin.jobStat(slot, CronEngine.S_STARTED));
    }
    return all;
  }

  private static void advanceLeavesTheRest() {
    Moments.each(twin -> {
      for (int n : new int[] {1, 1000, 100000}) {
        twin.advance(n);
        twin.staysSame();
      }
    });
  }

  // ---- promise 16 ----

  private static void nextAsIfStaged() {
    Moments.eachJob((twin, slot) -> {
      int next = twin.jobStat(slot, CronEngine.S_NEXT);
      Checks.due("compile of the job's text", twin.compiles(twin.textOf(slot)), true);
      Checks.due("nextFire(getClock())", twin.nextFire(twin.getClock()), next);
    });
  }

  private static void questionsChangeNothing() {
    int[] full = {0};
    Moments.each(twin -> {
      full[0] += twin.jobs() == MAX_JOBS ? 1 : 0;
      for (int i = 0; i < 20; i++) {
        twin.looksSame();
      }
      twin.staysSame();
    });
    Checks.due("enough moments with all slots occupied", full[0] >= 20, true);
  }
}
