import java.util.function.Function;

/** "A refused call answers as stated and changes nothing", for each call and each reason to refuse it. */
public final class RefusedEdgesTest {
  private static final int[] NO_SLOTS = {-1, 8, 9, 64, Integer.MIN_VALUE, Integer.MAX_VALUE};
  private static final int[] NO_POLICIES = {-1, 3, 256, Integer.MIN_VALUE, Integer.MAX_VALUE};

  public static void main(String[] args) {
    Checks.under("State, 'A refused call answers as stated and changes nothing.', for putChar");
    Checks.sentence("`c < 32` or `c > 126`", RefusedEdgesTest::noCharacter);
    Checks.sentence("the text already holds TEXT_CAP characters", RefusedEdgesTest::fullText);
    Checks.under("State, 'A refused call answers as stated and changes nothing.', for addJob");
    Checks.sentence("there is no staged schedule", RefusedEdgesTest::nothingStaged);
    Checks.sentence("`misfire` is not 0..2", RefusedEdgesTest::noMisfirePolicy);
    Checks.sentence("`concurrency` is not 0..2", RefusedEdgesTest::noConcurrencyPolicy);
    Checks.sentence("there is no empty slot", RefusedEdgesTest::fullTable);
    Checks.under("State, 'A refused call answers as stated and changes nothing.', for removeJob");
    Checks.sentence("`slot` is not 0..MAX_JOBS-1", RefusedEdgesTest::removeOutsideTheTable);
    Checks.sentence("that slot is empty", RefusedEdgesTest::removeOfAnEmptySlot);
    Checks.under("State, 'A refused call answers as stated and changes nothing.', for advance");
    Checks.sentence("`n < 1`", RefusedEdgesTest::stepTooSmall);
    Checks.sentence("`clock == MAXT`", RefusedEdgesTest::clockAtItsEnd);
    Checks.under("State, 'A refused call answers as stated and changes nothing.', for complete");
    Checks.sentence("`slot` is not 0..MAX_JOBS-1", RefusedEdgesTest::completeOutsideTheTable);
    Checks.sentence("the slot is empty", RefusedEdgesTest::completeOfAnEmptySlot);
    Checks.sentence("its running is 0", RefusedEdgesTest::completeWithNothingRunning);
    Checks.end();
  }

  private static void refused(States.State state, String call, Function<CronEngine, Object> made, Object answer) {
    States.changesNothing(state, call, x -> Checks.due(call + " with " + state.name(), made.apply(x), answer));
  }

  private static void refusedAnywhere(String call, Function<CronEngine, Object> made, Object answer) {
    for (States.State state : States.ALL) {
      refused(state, call, made, answer);
    }
  }

  private static void noCharacter() {
    for (int c : new int[] {31, 127, 0, -1, 9, 10, 128, 65536 + '5', Integer.MIN_VALUE, Integer.MAX_VALUE}) {
      refusedAnywhere("putChar(" + c + ")", x -> x.putChar(c), false);
    }
  }

  private static void fullText() {
    int found = 0;
    for (States.State state : States.ALL) {
      if (state.text().length() == CronEngine.TEXT_CAP) {
        found++;
        for (int c : new int[] {32, '5', '*', 126, 31, 127}) {
          refused(state, "putChar(" + c + ")", x -> x.putChar(c), false);
        }
      }
    }
    Checks.due("states with a full text", found, 2);
  }

  private static void nothingStaged() {
    int found = 0;
    for (States.State state : States.ALL) {
      if (Checks.staged(state.make()).equals("[][][][][]")) {
        found++;
        refused(state, "addJob(0, 0)", x -> x.addJob(0, 0), -1);
        refused(state, "addJob(2, 2)", x -> x.addJob(2, 2), -1);
        refused(state, "addJob(3, 3)", x -> x.addJob(3, 3), -1);
      }
    }
    Checks.due("states with nothing staged", found, 3);
  }

  private static void noMisfirePolicy() {
    for (int wrong : NO_POLICIES) {
      refusedAnywhere("addJob(" + wrong + ", 0)", x -> x.addJob(wrong, 0), -1);
      refusedAnywhere("addJob(" + wrong + ", " + wrong + ")", x -> x.addJob(wrong, wrong), -1);
    }
  }

  private static void noConcurrencyPolicy() {
    for (int wrong : NO_POLICIES) {
      refusedAnywhere("addJob(0, " + wrong + ")", x -> x.addJob(0, wrong), -1);
    }
  }

  private static void fullTable() {
    int found = 0;
    for (States.State state : States.ALL) {
      if (state.make().jobStat(7, CronEngine.S_RUNNING) != -1) {
        found++;
        for (int policy = 0; policy <= 2; policy++) {
          int both = policy;
          refused(state, "addJob(" + both + ", " + both + ")", x -> x.addJob(both, both), -1);
        }
      }
    }
    Checks.due("states with a full table", found, 1);
  }

  private static void removeOutsideTheTable() {
    for (int slot : NO_SLOTS) {
      refusedAnywhere("removeJob(" + slot + ")", x -> x.removeJob(slot), false);
    }
  }

  private static void removeOfAnEmptySlot() {
    atEmptySlots("removeJob", (x, slot) -> x.removeJob(slot));
  }

  private static void completeOfAnEmptySlot() {
    atEmptySlots("complete", (x, slot) -> x.complete(slot));
  }

  private interface SlotCall {
    boolean make(CronEngine x, int slot);
  }

  private static void atEmptySlots(String name, SlotCall call) {
    int found = 0;
    for (States.State state : States.ALL) {
      for (int slot = 0; slot < CronEngine.MAX_JOBS; slot++) {
        if (state.make().jobStat(slot, CronEngine.S_RUNNING) == -1) {
          found++;
          int empty = slot;
          refused(state, name + "(" + slot + ")", x -> call.make(x, empty), false);
        }
      }
    }
    // Three states have no job; the others have 3, 8, 5, 7 and 4.
    Checks.due("empty slots in all states", found, 8 * 8 - 3 - 8 - 5 - 7 - 4);
  }

  private static void stepTooSmall() {
    for (int n : new int[] {0, -1, -125, -CronEngine.MAXT, Integer.MIN_VALUE}) {
      refusedAnywhere("advance(" + n + ")", x -> x.advance(n), -1);
    }
  }

  private static void clockAtItsEnd() {
    int found = 0;
    for (States.State state : States.ALL) {
      if (state.make().getClock() == CronEngine.MAXT) {
        found++;
        for (int n : new int[] {1, 60, CronEngine.MAXT, Integer.MAX_VALUE, 0, -1}) {
          refused(state, "advance(" + n + ")", x -> x.advance(n), -1);
        }
      }
    }
    Checks.due("states at the last minute", found, 1);
  }

  private static void completeOutsideTheTable() {
    for (int slot : NO_SLOTS) {
      refusedAnywhere("complete(" + slot + ")", x -> x.complete(slot), false);
    }
  }

  private static void completeWithNothingRunning() {
    for (int slot = 0; slot < CronEngine.MAX_JOBS; slot++) {
      int idle = slot;
      States.State state = new States.State("slot " + slot + " idle", () -> withIdle(idle), "1 2 3 4");
      Checks.due("S_RUNNING of the idle job", state.make().jobStat(slot, CronEngine.S_RUNNING), 0);
      refused(state, "complete(" + slot + ")", x -> x.complete(idle), false);
    }
  }

  private static CronEngine withIdle(int slot) {
    CronEngine x = States.withJobs(3, 8);
    for (int run = x.jobStat(slot, CronEngine.S_RUNNING); run > 0; run--) {
      x.complete(slot);
    }
    return x;
  }
}
