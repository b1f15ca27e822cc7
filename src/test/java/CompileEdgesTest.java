/** The boundary cases of promises 5 to 7, sentence by sentence. */
public final class CompileEdgesTest {
  private static final String ALL_SETS = "[" + Checks.range(0, 59, 1) + "][" + Checks.range(0, 23, 1) + "]["
      + Checks.range(1, 31, 1) + "]*[" + Checks.range(1, 12, 1) + "][" + Checks.range(0, 6, 1) + "]*";
  /** One text for each row of the list of rejections. */
  private static final String[] REJECTED = {
    "* * * *", "1- * * * *", "* * * * JAN", "60 * * * *", "5-4 * * * *", "*/0 * * * *"
  };
  private static final int[] NO_FIELDS = {
    -1, 5, 6, 7, -2, -5, -40, 40, 45, 64, 256, 65536, 858993459, 858993460, Integer.MIN_VALUE, Integer.MAX_VALUE
  };

  public static void main(String[] args) {
    Checks.under("Promise 5: compile");
    Checks.sentence("the staged schedule becomes the parsed one, replacing any earlier one",
        CompileEdgesTest::replacesTheEarlier);
    Checks.sentence("there is no staged schedule afterwards", CompileEdgesTest::rejectedWithNoneBefore);
    Checks.sentence("even if one existed before", CompileEdgesTest::rejectedWithOneBefore);
    Checks.sentence("In both cases the text is empty afterwards.", CompileEdgesTest::textIsEmptyAfterwards);
    Checks.sentence("An empty text", CompileEdgesTest::emptyText);
    Checks.sentence("or one holding only spaces, has no fields and is rejected", CompileEdgesTest::onlySpaces);
    Checks.sentence("Jobs are unchanged, including the schedule copies they hold.", CompileEdgesTest::jobsStay);
    Checks.sentence("The clock is unchanged.", CompileEdgesTest::clockStays);

    Checks.under("Promise 6: fieldHas");
    Checks.sentence("a staged schedule exists", CompileEdgesTest::fieldHasWithNothingStaged);
    Checks.sentence("`0 <= field <= 4`", CompileEdgesTest::fieldOutOfRange);
    Checks.sentence("`v` is in that field's set", CompileEdgesTest::valueAndItsNeighbours);
    Checks.sentence("Valid `v` are: minute 0..59", () -> validValues(CronEngine.F_MINUTE, 0, 59));
    Checks.sentence("hour 0..23", () -> validValues(CronEngine.F_HOUR, 0, 23));
    Checks.sentence("day of month 1..31", () -> validValues(CronEngine.F_DOM, 1, 31));
    Checks.sentence("month 1..12", () -> validValues(CronEngine.F_MONTH, 1, 12));
    Checks.sentence("day of week 0..6", () -> validValues(CronEngine.F_DOW, 0, 6));
    Checks.sentence("Any other `v` answers false", CompileEdgesTest::farValues);
    Checks.sentence("`fieldHas(F_DOW, 7)` is false, since 7 is stored as 0", CompileEdgesTest::sevenIsNoWeekday);
    Checks.sentence("It changes nothing.", CompileEdgesTest::fieldHasChangesNothing);

    Checks.under("Promise 7: dayStarred");
    Checks.sentence("a staged schedule exists", CompileEdgesTest::dayStarredWithNothingStaged);
    Checks.sentence("`field` is F_DOM or F_DOW", CompileEdgesTest::dayFields);
    Checks.sentence("that field is starred", CompileEdgesTest::eachFieldForItself);
    Checks.sentence("Every other `field` value answers false.", CompileEdgesTest::otherFieldsAreNotStarred);
    Checks.sentence("It changes nothing.", CompileEdgesTest::dayStarredChangesNothing);
    Checks.end();
  }

  // ---- promise 5 ----

  private static void replacesTheEarlier() {
    CronEngine x = new CronEngine(1);
    for (int round = 0; round < 2; round++) {
      Checks.due("compile of a full schedule", Checks.compiles(x, "* * * * *"), true);
      Checks.due("its sets", Checks.staged(x), ALL_SETS);
      Checks.due("compile of single values", Checks.compiles(x, "1 2 3 4 5"), true);
      Checks.due("their sets, with nothing left of the earlier ones", Checks.staged(x), "[1][2][3][4][5]");
      Checks.due("compile of other values", Checks.compiles(x, "6 7 8 9 0"), true);
      Checks.due("their sets", Checks.staged(x), "[6][7][8][9][0]");
      Checks.due("nextFire(0)", x.nextFire(0), Checks.at(2096, 9, 2, 7, 6));
    }
  }

  private static void rejectedWithNoneBefore() {
    for (String text : REJECTED) {
      CronEngine x = new CronEngine(1);
      Checks.due("compile of '" + text + "'", Checks.compiles(x, text), false);
      Texts.nothingStaged(x);
      Checks.due("compile of '" + text + "' again", Checks.compiles(x, text), false);
      Texts.nothingStaged(x);
    }
  }

  private static void rejectedWithOneBefore() {
    for (String text : REJECTED) {
      CronEngine x = Checks.withStaged(1, "* * * * *");
      Checks.due("compile of '" + text + "'", Checks.compiles(x, text), false);
      Texts.nothingStaged(x);
      Checks.due("compile of a right text after that", Checks.compiles(x, "1 2 3 4 5"), true);
      Checks.due("its sets", Checks.staged(x), "[1][2][3][4][5]");
    }
    // A fault in the last place, after four fields were read.
    CronEngine x = Checks.withStaged(1, "* * * * *");
    Checks.due("compile of '1 2 3 4 8'", Checks.compiles(x, "1 2 3 4 8"), false);
    Texts.nothingStaged(x);
    // A sixth field, after five were read.
    CronEngine y = Checks.withStaged(1, "* * * * *");
    Checks.due("compile of '1 2 3 4 5 6'", Checks.compiles(y, "1 2 3 4 5 6"), false);
    Texts.nothingStaged(y);
  }

  private static void textIsEmptyAfterwards() {
    for (String text : new String[] {"1 2 3 4 5", Texts.FULL, "wrong", "", " ", "1 2 3 4", "* ".repeat(32)}) {
      CronEngine x = new CronEngine(1);
      Checks.type(x, text);
      x.compile();
      Checks.due("textLength() after compile of '" + text + "'", x.textLength(), 0);
      Checks.type(x, "6 7 8 9 0");
      Checks.due("textLength() of the next text", x.textLength(), 9);
      Checks.due("compile() of the next text", x.compile(), true);
      Checks.due("its sets", Checks.staged(x), "[6][7][8][9][0]");
      Checks.due("compile() of nothing after it", x.compile(), false);
    }
  }

  private static void emptyText() {
    CronEngine x = new CronEngine(1);
    Checks.due("compile() of a new object", x.compile(), false);
    Texts.nothingStaged(x);
    Checks.compiles(x, "1 2 3 4 5");
    Checks.due("compile() right after an accepted text", x.compile(), false);
    Texts.nothingStaged(x);
    Checks.compiles(x, "1 2 3 4 5");
    Checks.type(x, "6 7 8 9 0");
    x.clearText();
    Checks.due("compile() after clearText()", x.compile(), false);
    Texts.nothingStaged(x);
  }

  private static void onlySpaces() {
    for (int spaces = 1; spaces <= 64; spaces++) {
      CronEngine x = Checks.withStaged(1, "1 2 3 4 5");
      Checks.due("compile of " + spaces + " spaces", Checks.compiles(x, " ".repeat(spaces)), false);
      Checks.due("textLength() after that", x.textLength(), 0);
      Texts.nothingStaged(x);
    }
  }

  private static void jobsStay() {
    String[] texts = {"* * * * *", "1 2 3 4 5", "0 0 *,5 2 *", "wrong", "", "1 2 3 4 8", "1 2 3 4 5 6"};
    for (String text : texts) {
      States.keepsClockAndJobs("compile of '" + text + "'", x -> Checks.compiles(x, text));
    }
  }

  private static void clockStays() {
    for (int clock : new int[] {0, 1, 1440, CronEngine.MAXT - 1, CronEngine.MAXT}) {
      CronEngine x = new CronEngine(1);
      x.advance(clock);
      for (String text : new String[] {"1 2 3 4 5", "wrong", ""}) {
        Checks.compiles(x, text);
        Checks.due("getClock() after compile of '" + text + "'", x.getClock(), clock);
      }
    }
  }

  // ---- promise 6 ----

  private static void fieldHasWithNothingStaged() {
    CronEngine x = new CronEngine(1);
    Checks.due("the sets of a new object", Checks.staged(x), "[][][][][]");
    Checks.type(x, "* * * * *");
    Checks.due("the sets of a text not compiled", Checks.staged(x), "[][][][][]");
    x.compile();
    Checks.due("the sets of a compiled text", Checks.staged(x), ALL_SETS);
    x.addJob(0, 0);
    Checks.compiles(x, "wrong");
    Checks.due("the sets after a rejected text", Checks.staged(x), "[][][][][]");
  }

  private static void fieldOutOfRange() {
    CronEngine x = Checks.withStaged(1, "* * * * *");
    for (int slot = 0; slot < 8; slot++) {
      x.addJob(0, 0);
    }
    for (int field = 0; field <= 4; field++) {
      Checks.due("fieldHas(" + field + ", 5)", x.fieldHas(field, 5), true);
    }
    for (int field : NO_FIELDS) {
      Checks.due("what fieldHas(" + field + ", ..) affirms", Checks.set(x, field), "");
    }
    for (int field = -60; field <= 60; field++) {
      Checks.due("fieldHas(" + field + ", 1)", x.fieldHas(field, 1), field >= 0 && field <= 4);
    }
  }

  private static void valueAndItsNeighbours() {
    for (int field = 0; field < 5; field++) {
      int highest = field == 4 ? 6 : Texts.HIGH[field];
      for (int v = Texts.LOW[field]; v <= highest; v++) {
        Texts.gives(field, "" + v, "" + v);
      }
    }
  }

  private static void validValues(int field, int lo, int hi) {
    CronEngine x = Checks.withStaged(1, "* * * * *");
    Checks.due("fieldHas(" + field + ", " + (lo - 1) + ")", x.fieldHas(field, lo - 1), false);
    for (int v = lo; v <= hi; v++) {
      Checks.due("fieldHas(" + field + ", " + v + ")", x.fieldHas(field, v), true);
    }
    Checks.due("fieldHas(" + field + ", " + (hi + 1) + ")", x.fieldHas(field, hi + 1), false);
  }

  private static void farValues() {
    CronEngine x = Checks.withStaged(1, "* * * * *");
    for (int field = 0; field < 5; field++) {
      int highest = field == 4 ? 6 : Texts.HIGH[field];
      for (int v = -200; v <= 300; v++) {
        boolean valid = v >= Texts.LOW[field] && v <= highest;
        Checks.due("fieldHas(" + field + ", " + v + ")", x.fieldHas(field, v), valid);
      }
      // Each would be 5 to a shift or a narrower number.
      for (int v : new int[] {5 - 64, 5 + 64, 5 + 256, 5 - 65536, 5 + 65536, 5 + (1 << 31)}) {
        Checks.due("fieldHas(" + field + ", " + v + ")", x.fieldHas(field, v), false);
      }
      Checks.due("fieldHas(" + field + ", least int)", x.fieldHas(field, Integer.MIN_VALUE), false);
      Checks.due("fieldHas(" + field + ", greatest int)", x.fieldHas(field, Integer.MAX_VALUE), false);
    }
  }

  private static void sevenIsNoWeekday() {
    for (String week : new String[] {"*", "7", "0-7", "5-7", "7-7", "1/2", "*/7", "0,7", "SUN-7"}) {
      CronEngine x = Checks.withStaged(1, "* * * * " + week);
      Checks.due("fieldHas(F_DOW, 7) of '" + week + "'", x.fieldHas(CronEngine.F_DOW, 7), false);
      Checks.due("fieldHas(F_DOW, 0) of '" + week + "'", x.fieldHas(CronEngine.F_DOW, 0), true);
    }
  }

  private static void fieldHasChangesNothing() {
    States.changesNothingAnywhere("fieldHas", x -> {
      for (int field = -1; field <= 5; field++) {
        Checks.set(x, field);
        x.fieldHas(field, Integer.MIN_VALUE);
        x.fieldHas(field, Integer.MAX_VALUE);
      }
    });
  }

  // ---- promise 7 ----

  private static void dayStarredWithNothingStaged() {
    CronEngine x = new CronEngine(1);
    bothStarred(x, "a new object", false);
    Checks.type(x, "* * * * *");
    bothStarred(x, "a text not compiled", false);
    x.compile();
    bothStarred(x, "a compiled text", true);
    Checks.compiles(x, "* * * *");
    bothStarred(x, "a text with too few fields", false);
    Checks.compiles(x, "* * * * * *");
    bothStarred(x, "a text with too many fields", false);
  }

  private static void bothStarred(CronEngine x, String when, boolean want) {
    Checks.due("dayStarred(F_DOM) of " + when, x.dayStarred(CronEngine.F_DOM), want);
    Checks.due("dayStarred(F_DOW) of " + when, x.dayStarred(CronEngine.F_DOW), want);
  }

  private static void dayFields() {
    bothStarred(Checks.withStaged(1, "1 1 * 1 *"), "'1 1 * 1 *'", true);
    bothStarred(Checks.withStaged(1, "* * 1 * 1"), "'* * 1 * 1'", false);
  }

  private static void eachFieldForItself() {
    CronEngine x = Checks.withStaged(1, "1 1 * 1 1");
    Checks.due("dayStarred(F_DOM) of '1 1 * 1 1'", x.dayStarred(CronEngine.F_DOM), true);
    Checks.due("dayStarred(F_DOW) of '1 1 * 1 1'", x.dayStarred(CronEngine.F_DOW), false);
    Checks.compiles(x, "1 1 1 1 *");
    Checks.due("dayStarred(F_DOM) of '1 1 1 1 *'", x.dayStarred(CronEngine.F_DOM), false);
    Checks.due("dayStarred(F_DOW) of '1 1 1 1 *'", x.dayStarred(CronEngine.F_DOW), true);
  }

  private static void otherFieldsAreNotStarred() {
    CronEngine x = Checks.withStaged(1, "* * * * *");
    for (int slot = 0; slot < 8; slot++) {
      x.addJob(0, 0);
    }
    for (int field = -60; field <= 60; field++) {
      Checks.due("dayStarred(" + field + ")", x.dayStarred(field), field == 2 || field == 4);
    }
    for (int field : NO_FIELDS) {
      Checks.due("dayStarred(" + field + ")", x.dayStarred(field), false);
    }
  }

  private static void dayStarredChangesNothing() {
    States.changesNothingAnywhere("dayStarred", x -> {
      for (int field = -1; field <= 5; field++) {
        x.dayStarred(field);
      }
    });
  }
}
