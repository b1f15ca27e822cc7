/** The boundary cases of the job table and of promise 11, sentence by sentence. */
public final class AddJobEdgesTest {
  private static final int MAXT = CronEngine.MAXT;
  private static final String EMPTY = Checks.EMPTY_SLOT;
  private static final int[] NO_POLICIES = {-1, 3, -2, 4, 256, 65536, Integer.MIN_VALUE, Integer.MAX_VALUE};

  public static void main(String[] args) {
    sentencesOnTheTable();
    sentencesOnAdding();
    Checks.end();
  }

  private static void sentencesOnTheTable() {
    Checks.under("What it is");
    Checks.sentence("`MAX_JOBS = 8`: the number of job slots.", AddJobEdgesTest::nineJobs);
    Checks.under("State");
    Checks.sentence("the staged schedule, which may be absent", AddJobEdgesTest::stagedOrAbsent);
    Checks.sentence("MAX_JOBS job slots, each empty or occupied", AddJobEdgesTest::eightSlots);
    Checks.sentence("A job holds its own copy of a schedule", AddJobEdgesTest::jobsHoldTheirOwn);
    Checks.sentence("All counters are 0 when the job is added.", AddJobEdgesTest::countersStartAtZero);
  }

  private static void sentencesOnAdding() {
    Checks.under("Promise 11: addJob");
    Checks.sentence("the first that holds refuses the call with -1", AddJobEdgesTest::everyMixOfReasons);
    Checks.sentence("there is no staged schedule", AddJobEdgesTest::addWithNothingStaged);
    Checks.sentence("`misfire` is not 0..2", AddJobEdgesTest::wrongMisfire);
    Checks.sentence("`concurrency` is not 0..2", AddJobEdgesTest::wrongConcurrency);
    Checks.sentence("there is no empty slot", AddJobEdgesTest::addToAFullTable);
    Checks.sentence("the lowest empty slot receives a job", AddJobEdgesTest::lowestSlot);
    Checks.sentence("a copy of the staged schedule", AddJobEdgesTest::copyOfEveryField);
    Checks.sentence("the two policies", AddJobEdgesTest::policiesAsGiven);
    Checks.sentence("all counters 0", AddJobEdgesTest::countersOfANewJob);
    Checks.sentence("It answers that slot number.", AddJobEdgesTest::slotNumbers);
    Checks.sentence("The staged schedule stays, so the same schedule can be added again.", AddJobEdgesTest::addedAgain);
    Checks.sentence("Later compiles do not alter the job's copy.", AddJobEdgesTest::laterCompiles);
    Checks.sentence("Only fire times after the clock at this moment ever concern the job.",
        AddJobEdgesTest::onlyLaterTimes);
    Checks.sentence("The clock, the text and the other slots are unchanged.", AddJobEdgesTest::addLeavesTheRest);
  }

  // ---- the table ----

  private static void nineJobs() {
    Checks.due("MAX_JOBS", CronEngine.MAX_JOBS, 8);
    CronEngine x = States.withFullTable(1, "* * * * *");
    Checks.due("addJob as the ninth", x.addJob(0, 0), -1);
    Checks.due("advance(1) of eight jobs", x.advance(1), 8);
  }

  private static void stagedOrAbsent() {
    CronEngine x = new CronEngine(1);
    Texts.nothingStaged(x);
    Checks.compiles(x, "1 2 3 4 5");
    Checks.due("the sets of a staged schedule", Checks.staged(x), "[1][2][3][4][5]");
    Checks.due("addJob(0, 0) with a staged schedule", x.addJob(0, 0), 0);
    Checks.compiles(x, "wrong");
    Texts.nothingStaged(x);
    // A job goes on without a staged schedule.
    Checks.due("S_NEXT", x.jobStat(0, CronEngine.S_NEXT), Checks.at(2096, 4, 3, 2, 1));
    Checks.due("advance to its time", x.advance(Checks.at(2096, 4, 3, 2, 1)), 1);
  }

  private static void eightSlots() {
    for (int jobs = 0; jobs <= 8; jobs++) {
      CronEngine x = Checks.withStaged(1, "* * * * *");
      for (int i = 0; i < jobs; i++) {
        x.addJob(0, 0);
      }
      for (int slot = 0; slot < 8; slot++) {
        String want = slot < jobs ? "0 0 0 0 0 0 1 0 0" : EMPTY;
        Checks.due("slot " + slot + " of a table with " + jobs + " jobs", Checks.job(x, slot), want);
      }
    }
  }

  private static void jobsHoldTheirOwn() {
    CronEngine x = new CronEngine(1);
    for (int slot = 0; slot < 8; slot++) {
      Checks.compiles(x, slot + " " + slot + " * * *");
      x.addJob(0, 0);
    }
    for (int slot = 0; slot < 8; slot++) {
      int want = slot == 0 ? 1440 : slot * 61;
      Checks.due("S_NEXT of slot " + slot, x.jobStat(slot, CronEngine.S_NEXT), want);
    }
  }

  private static void countersStartAtZero() {
    for (int clock : new int[] {0, 1, 1440, MAXT - 1, MAXT}) {
      CronEngine x = Checks.withStaged(1, "* * * * *");
      x.advance(clock);
      x.addJob(0, 0);
      for (int which = CronEngine.S_RUNNING; which <= CronEngine.S_MISFIRES; which++) {
        Checks.due("counter " + which + " of a job added at " + clock, x.jobStat(0, which), 0);
      }
    }
  }

  // ---- promise 11 ----

  /** Any one of the four reasons refuses, alone or with others. */
  private static void everyMixOfReasons() {
    for (int mix = 0; mix < 16; mix++) {
      CronEngine x = Checks.withStaged(1, "* * * * *");
      boolean full = (mix & 8) != 0;
      for (int slot = 0; slot < (full ? 8 : 7); slot++) {
        x.addJob(0, 0);
      }
      if ((mix & 1) != 0) {
        x.compile();
      }
      int misfire = (mix & 2) != 0 ? 3 : 2;
      int concurrency = (mix & 4) != 0 ? -1 : 0;
      String before = Checks.state(x);
      String call = "addJob(" + misfire + ", " + concurrency + ") with the reasons " + Integer.toBinaryString(mix);
      Checks.due(call, x.addJob(misfire, concurrency), mix == 0 ? 7 : -1);
      if (mix != 0) {
        Checks.due("the state after " + call, Checks.state(x), before);
      }
    }
  }

  private static void addWithNothingStaged() {
    CronEngine x = new CronEngine(1);
    for (int misfire = 0; misfire <= 2; misfire++) {
      for (int concurrency = 0; concurrency <= 2; concurrency++) {
        Checks.due("addJob of a new object", x.addJob(misfire, concurrency), -1);
      }
    }
    Checks.type(x, "* * * * *");
    Checks.due("addJob of a text not compiled", x.addJob(0, 0), -1);
    x.compile();
    Checks.due("addJob of a compiled text", x.addJob(0, 0), 0);
    Checks.compiles(x, "wrong");
    Checks.due("addJob after a rejected text", x.addJob(0, 0), -1);
    Checks.due("slot 1 after that", Checks.job(x, 1), EMPTY);
  }

  private static void wrongMisfire() {
    CronEngine x = Checks.withStaged(1, "* * * * *");
    for (int wrong : NO_POLICIES) {
      for (int concurrency = 0; concurrency <= 2; concurrency++) {
        Checks.due("addJob(" + wrong + ", " + concurrency + ")", x.addJob(wrong, concurrency), -1);
      }
    }
    Checks.due("slot 0 after that", Checks.job(x, 0), EMPTY);
    Checks.due("addJob(0, 0)", x.addJob(0, 0), 0);
    Checks.due("addJob(2, 0)", x.addJob(2, 0), 1);
  }

  private static void wrongConcurrency() {
    CronEngine x = Checks.withStaged(1, "* * * * *");
    for (int wrong : NO_POLICIES) {
      for (int misfire = 0; misfire <= 2; misfire++) {
        Checks.due("addJob(" + misfire + ", " + wrong + ")", x.addJob(misfire, wrong), -1);
      }
    }
    Checks.due("slot 0 after that", Checks.job(x, 0), EMPTY);
    Checks.due("addJob(0, 0)", x.addJob(0, 0), 0);
    Checks.due("addJob(0, 2)", x.addJob(0, 2), 1);
  }

  private static void addToAFullTable() {
    CronEngine x = States.withFullTable(3, "* * * * *");
    x.advance(5);
    String[] before = States.slots(x);
    for (int misfire = 0; misfire <= 2; misfire++) {
      for (int concurrency = 0; concurrency <= 2; concurrency++) {
        Checks.due("addJob to a full table", x.addJob(misfire, concurrency), -1);
      }
    }
    States.slotsAre("after that", x, before);
    x.removeJob(4);
    Checks.due("addJob with one slot empty", x.addJob(0, 0), 4);
    Checks.due("addJob with none empty again", x.addJob(0, 0), -1);
  }

  private static void lowestSlot() {
    for (int gaps = 1; gaps < 256; gaps++) {
      CronEngine x = States.withFullTable(1, "* * * * *");
      for (int slot = 7; slot >= 0; slot--) {
        if ((gaps >> slot & 1) != 0) {
          x.removeJob(slot);
        }
      }
      for (int slot = 0; slot < 8; slot++) {
        if ((gaps >> slot & 1) != 0) {
          Checks.due("addJob with the gaps " + Integer.toBinaryString(gaps), x.addJob(0, 0), slot);
        }
      }
      Checks.due("addJob with all gaps filled", x.addJob(0, 0), -1);
    }
  }

  private static void copyOfEveryField() {
    String[] texts = {
      "59 * * * *", "0 23 * * *", "0 0 31 * *", "0 0 1 12 *", "0 0 * * 6", "0 0 */2 * 1", "0 0 1/2 * 1", "0 0 31 2 *"
    };
    CronEngine x = new CronEngine(1);
    int[] next = new int[8];
    for (int slot = 0; slot < 8; slot++) {
      Checks.compiles(x, texts[slot]);
      next[slot] = x.nextFire(0);
      x.addJob(0, 0);
    }
    for (int slot = 0; slot < 8; slot++) {
      Checks.due("S_NEXT of '" + texts[slot] + "'", x.jobStat(slot, CronEngine.S_NEXT), next[slot]);
    }
    Checks.due("S_NEXT of the starred day field", next[5], Checks.at(2096, 1, 9, 0, 0));
    Checks.due("S_NEXT of the same values with no star", next[6], Checks.at(2096, 1, 2, 0, 0));
  }

  private static void policiesAsGiven() {
    for (int misfire = 0; misfire <= 2; misfire++) {
      for (int concurrency = 0; concurrency <= 2; concurrency++) {
        CronEngine x = Checks.withStaged(1, "* * * * *");
        x.addJob(misfire, concurrency);
        Checks.due("the job", Checks.job(x, 0), "0 0 0 0 0 0 1 " + misfire + " " + concurrency);
      }
    }
  }

  private static void countersOfANewJob() {
    CronEngine x = States.withFullTable(4, "* * * * *");
    x.advance(10);
    for (int slot = 0; slot < 8; slot++) {
      x.complete(slot);
      x.removeJob(slot);
      Checks.due("addJob", x.addJob(1, 1), slot);
      Checks.due("the new job", Checks.job(x, slot), "0 0 0 0 0 0 11 1 1");
    }
  }

  private static void slotNumbers() {
    CronEngine x = Checks.withStaged(1, "* * * * *");
    Checks.due("the first addJob", x.addJob(0, 0), 0);
    for (int slot = 1; slot < 7; slot++) {
      Checks.due("addJob", x.addJob(0, 0), slot);
    }
    Checks.due("the last addJob", x.addJob(0, 0), 7);
  }

  private static void addedAgain() {
    CronEngine x = Checks.withStaged(1, "30 12 *,5 * 1-5");
    String schedule = Checks.staged(x);
    int next = x.nextFire(0);
    for (int slot = 0; slot < 8; slot++) {
      Checks.due("addJob", x.addJob(0, 0), slot);
      Checks.due("the sets after addJob", Checks.staged(x), schedule);
      Checks.due("S_NEXT of slot " + slot, x.jobStat(slot, CronEngine.S_NEXT), next);
    }
    x.addJob(0, 0);
    Checks.due("the sets after a refused addJob", Checks.staged(x), schedule);
    Checks.due("nextFire(0) after all", x.nextFire(0), next);
  }

  private static void laterCompiles() {
    CronEngine x = Checks.withStaged(8, "0 0 */2 * 1");
    x.addJob(2, 0);
    int first = Checks.at(2096, 1, 9, 0, 0);
    for (String text : new String[] {"* * * * *", "0 0 1/2 * 1", "wrong", "", "1 2 3 4 8", "59 23 31 12 7"}) {
      Checks.compiles(x, text);
      Checks.due("S_NEXT after compile of '" + text + "'", x.jobStat(0, CronEngine.S_NEXT), first);
    }
    Checks.due("advance to the minute before", x.advance(first - 1), 0);
    Checks.due("advance(1) to the job's own time", x.advance(1), 1);
  }

  private static void onlyLaterTimes() {
    for (int misfire = 0; misfire <= 2; misfire++) {
      CronEngine x = Checks.withStaged(8, "0 0 * * *");
      x.advance(3 * 1440);
      x.addJob(misfire, 0);
      Checks.due("S_NEXT of a job added at its fire time", x.jobStat(0, CronEngine.S_NEXT), 4 * 1440);
      Checks.due("advance(1) after that time", x.advance(1), 0);
      Checks.due("advance(1438) up to the next one", x.advance(1438), 0);
      Checks.due("misfires before the next one", x.jobStat(0, CronEngine.S_MISFIRES), 0);
      Checks.due("advance(1) to the next one", x.advance(1), 1);
      Checks.due("misfires at the next one", x.jobStat(0, CronEngine.S_MISFIRES), 0);
      CronEngine last = Checks.withStaged(8, "* * * * *");
      last.advance(MAXT);
      Checks.due("addJob at the last time", last.addJob(misfire, 0), 0);
      Checks.due("the job", Checks.job(last, 0), "0 0 0 0 0 0 -1 " + misfire + " 0");
      CronEngine zero = Checks.withStaged(8, "0 0 1 1 *");
      zero.addJob(misfire, 0);
      Checks.due("advance over the first year of a job added at time 0", zero.advance(366 * 1440 - 1), 0);
    }
  }

  private static void addLeavesTheRest() {
    for (int slot = 0; slot < 7; slot++) {
      CronEngine x = States.withJobs(3, slot);
      Checks.type(x, "5 4 3");
      String[] want = States.slots(x);
      String schedule = Checks.staged(x);
      Checks.due("addJob", x.addJob(0, 2), slot);
      want[slot] = "0 0 0 0 0 0 " + x.nextFire(125) + " 0 2";
      States.slotsAre("after addJob", x, want);
      Checks.due("the sets after addJob", Checks.staged(x), schedule);
      Checks.due("the clock after addJob", x.getClock(), 125);
      Checks.due("textLength() after addJob", x.textLength(), 5);
      Checks.type(x, " 2 1");
      Checks.due("compile() of a text typed around addJob", x.compile(), true);
      Checks.due("the sets of that text", Checks.staged(x), "[5][4][3][2][1]");
    }
  }
}
