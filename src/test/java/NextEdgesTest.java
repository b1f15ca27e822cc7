/** The boundary cases of Match and next and of promise 8, sentence by sentence. */
public final class NextEdgesTest {
  private static final int MAXT = CronEngine.MAXT;
  private static final int NONE = CronEngine.NONE;

  public static void main(String[] args) {
    Checks.under("What it is");
    Checks.sentence("When neither day field begins with '*', a day matches if either day field matches",
        NextEdgesTest::neitherBeginsWithAStar);
    Checks.sentence("otherwise both must match", NextEdgesTest::oneBeginsWithAStar);

    Checks.under("Match and next");
    Checks.sentence("its minute, hour and month are in the respective sets", NextEdgesTest::minuteHourAndMonth);
    Checks.sentence("if at least one day field is starred", NextEdgesTest::starredMeansAnd);
    Checks.sentence("if neither day field is starred", NextEdgesTest::unstarredMeansOr);
    Checks.sentence("the least `m` with `t < m", NextEdgesTest::strictlyAfter);
    Checks.sentence("m <= MAXT` that matches", NextEdgesTest::upToTheLastTime);
    Checks.sentence("It is `NONE` when there is no such `m`.", NextEdgesTest::noneAfterTheLastMatch);

    Checks.under("Promise 8: nextFire");
    Checks.sentence("answers NONE when there is no staged schedule", NextEdgesTest::nothingStaged);
    Checks.sentence("`t < 0`", NextEdgesTest::timeTooSmall);
    Checks.sentence("`t > MAXT`", NextEdgesTest::timeTooLarge);
    Checks.sentence("That is the least `m` with `t < m <= MAXT`", NextEdgesTest::wrapsAround);
    Checks.sentence("when `dayStarred(F_DOM)` or `dayStarred(F_DOW)`", NextEdgesTest::eachStarForItself);
    Checks.sentence("otherwise: `fieldHas(F_DOM, timeField(m, T_DAY))` or `fieldHas(F_DOW, timeField(m, T_DOW))`",
        NextEdgesTest::sameSetsWithoutAStar);
    Checks.sentence("This includes `t = MAXT`", NextEdgesTest::fromTheLastTime);
    Checks.sentence("schedules that never match within the window", NextEdgesTest::neverInTheWindow);
    Checks.sentence("for example day of month 31 in month 2 with the day of week field starred",
        NextEdgesTest::februaryThirtyFirst);
    Checks.sentence("It answers NONE exactly when no such `m` exists.", NextEdgesTest::noneExactlyThen);
    Checks.sentence("It changes nothing", NextEdgesTest::changesNothing);
    Checks.sentence("the clock is not involved", NextEdgesTest::clockIsNotInvolved);
    Checks.end();
  }

  private static void next(String text, int t, int want) {
    CronEngine x = Checks.withStaged(1, text);
    Checks.due("nextFire(" + t + ") of '" + text + "'", x.nextFire(t), want);
  }

  /** The wanted time is next from the minute before it, and from t. */
  private static void first(String text, int t, int want) {
    next(text, t, want);
    next(text, want - 1, want);
  }

  private static int day(int year, int month, int day) {
    return Checks.at(year, month, day, 0, 0);
  }

  // ---- match and next ----

  private static void neitherBeginsWithAStar() {
    // 2096-01-06 is the first Friday, 2096-01-03 a Tuesday.
    first("0 0 3 * 5", 0, day(2096, 1, 3));
    first("0 0 3 * 5", day(2096, 1, 3), day(2096, 1, 6));
    first("0 0 3,* * 5", 0, day(2096, 1, 2));
    first("0 0 3 * 5,*", 0, day(2096, 1, 2));
  }

  private static void oneBeginsWithAStar() {
    first("0 0 *,3 * 5", 0, day(2096, 1, 6));
    first("0 0 3 * *,5", 0, day(2096, 1, 3));
    first("0 0 3 * *,5", day(2096, 1, 3), day(2096, 2, 3));
    first("0 0 * * *", 0, day(2096, 1, 2));
  }

  private static void minuteHourAndMonth() {
    first("59 * * * *", 0, 59);
    first("0 * * * *", 0, 60);
    first("* 23 * * *", 0, 23 * 60);
    first("* 0 * * *", 59, 1440);
    first("0 0 * 12 *", 0, day(2096, 12, 1));
    first("0 0 * 1 *", day(2096, 1, 31), day(2097, 1, 1));
    first("0 0 1 2 *", 0, day(2096, 2, 1));
    // Two of the three are not enough.
    next("30 5 * 3 *", Checks.at(2096, 3, 1, 5, 29), Checks.at(2096, 3, 1, 5, 30));
    next("30 5 * 3 *", Checks.at(2096, 3, 1, 5, 30), Checks.at(2096, 3, 2, 5, 30));
    next("30 5 * 3 *", Checks.at(2096, 3, 31, 5, 30), Checks.at(2097, 3, 1, 5, 30));
  }

  private static void starredMeansAnd() {
    // 2096-01-01 is a Sunday; the first Friday is the 6th, the first Friday the 13th is in January.
    first("0 0 * * 5", 0, day(2096, 1, 6));
    first("0 0 13 * *", 0, day(2096, 1, 13));
    first("0 0 */2 * 5", 0, day(2096, 1, 13));
    first("0 0 *,6 * 5", 0, day(2096, 1, 6));
    first("0 0 6 * */2", 0, day(2096, 3, 6));
    first("0 0 */31 * */6", 0, day(2096, 4, 1));
    first("0 0 * * *", 0, day(2096, 1, 2));
  }

  private static void unstarredMeansOr() {
    first("0 0 13 * 5", 0, day(2096, 1, 6));
    first("0 0 5 * 5", 0, day(2096, 1, 5));
    first("0 0 6 * 5", 0, day(2096, 1, 6));
    first("0 0 6 * 5", day(2096, 1, 6), day(2096, 1, 13));
    first("0 0 5,* * 5", 0, day(2096, 1, 2));
    first("0 0 31 * 6", day(2096, 1, 28), day(2096, 1, 31));
    first("0 0 31 * 6", day(2096, 1, 31), day(2096, 2, 4));
    first("0 0 1/30 * 1", 0, day(2096, 1, 2));
    first("0 0 2 * 0-7/7", 0, day(2096, 1, 2));
    first("0 0 3 * 7", 0, day(2096, 1, 3));
    first("0 0 30 * 7", 0, day(2096, 1, 8));
  }

  private static void strictlyAfter() {
    next("* * * * *", 0, 1);
    next("0 0 1 1 *", 0, day(2097, 1, 1));
    next("0 0 * * *", 1439, 1440);
    next("0 0 * * *", 1440, 2880);
    next("0 0 * * *", 1441, 2880);
    next("* * * * *", MAXT - 2, MAXT - 1);
    CronEngine x = Checks.withStaged(1, "* * * * *");
    for (int t = 0; t < MAXT; t += 997) {
      Checks.due("nextFire(" + t + ") of every minute", x.nextFire(t), t + 1);
    }
  }

  private static void upToTheLastTime() {
    first("59 23 31 12 *", Checks.at(2102, 12, 31, 23, 59), MAXT);
    first("* * * * *", MAXT - 1, MAXT);
    first("59 23 * * *", MAXT - 1440, MAXT);
    first("* * 31 12 *", MAXT - 1, MAXT);
    first("* * * * MON", MAXT - 1, MAXT);
    next("* * * * *", MAXT, NONE);
  }

  private static void noneAfterTheLastMatch() {
    next("58 23 31 12 *", MAXT - 2, MAXT - 1);
    next("58 23 31 12 *", MAXT - 1, NONE);
    next("0 0 1 1 *", day(2103, 1, 1) - 1, day(2103, 1, 1));
    next("0 0 1 1 *", day(2103, 1, 1), NONE);
    next("0 0 * * SUN", day(2103, 12, 30) - 1, day(2103, 12, 30));
    next("0 0 * * SUN", day(2103, 12, 30), NONE);
    next("0 0 29 2 *", day(2096, 2, 29), NONE);
  }

  // ---- promise 8 ----

  private static void nothingStaged() {
    CronEngine x = new CronEngine(1);
    int[] times = {0, 1, 1440, MAXT - 1, MAXT, -1, MAXT + 1};
    for (int t : times) {
      Checks.due("nextFire(" + t + ") of a new object", x.nextFire(t), NONE);
    }
    Checks.compiles(x, "* * * * *");
    Checks.due("nextFire(0) of a compiled text", x.nextFire(0), 1);
    x.addJob(0, 0);
    x.compile();
    for (int t : times) {
      Checks.due("nextFire(" + t + ") after a rejected text", x.nextFire(t), NONE);
    }
  }

  private static void timeTooSmall() {
    for (String text : new String[] {"* * * * *", "0 0 1 1 *", "59 23 31 12 *"}) {
      CronEngine x = Checks.withStaged(1, text);
      for (int t : new int[] {-1, -2, -60, -1440, -MAXT, Integer.MIN_VALUE, Integer.MIN_VALUE + 1}) {
        Checks.due("nextFire(" + t + ") of '" + text + "'", x.nextFire(t), NONE);
      }
    }
    next("* * * * *", 0, 1);
  }

  private static void timeTooLarge() {
    for (String text : new String[] {"* * * * *", "0 0 1 1 *", "59 23 31 12 *"}) {
      CronEngine x = Checks.withStaged(1, text);
      for (int t : new int[] {MAXT + 1, MAXT + 2, MAXT + 1440, 5000000, Integer.MAX_VALUE - 1, Integer.MAX_VALUE}) {
        Checks.due("nextFire(" + t + ") of '" + text + "'", x.nextFire(t), NONE);
      }
    }
  }

  /** The least match lies beyond the end of an hour, a day, a week, a month or a year. */
  private static void wrapsAround() {
    first("10 * * * *", 10, 70);
    first("59 23 * * *", 1439, 1440 + 1439);
    first("0 0 * * *", 1439, 1440);
    first("0 0 * * SUN", day(2096, 1, 7), day(2096, 1, 8));
    first("0 0 * * 6-7", day(2096, 1, 8), day(2096, 1, 14));
    first("0 0 1 * *", day(2096, 1, 31), day(2096, 2, 1));
    first("0 0 31 * *", day(2096, 3, 31), day(2096, 5, 31));
    first("0 0 1 1 *", day(2096, 12, 31), day(2097, 1, 1));
    first("59 23 31 12 *", Checks.at(2099, 12, 31, 23, 59), Checks.at(2100, 12, 31, 23, 59));
    first("0 0 * 1 *", day(2099, 1, 31), day(2100, 1, 1));
    first("0 0 * 2-3 *", day(2096, 2, 28), day(2096, 2, 29));
    first("0 0 * 2-3 *", day(2096, 2, 29), day(2096, 3, 1));
    first("0 0 * 2-3 *", day(2100, 2, 28), day(2100, 3, 1));
    first("0 0 29 * *", day(2100, 1, 29), day(2100, 3, 29));
    first("0 0 28-31 2 *", day(2099, 2, 28), day(2100, 2, 28));
    first("0 0 28-31 2 *", day(2100, 2, 28), day(2101, 2, 28));
  }

  private static void eachStarForItself() {
    // The first Monday that is odd is the 9th; the 10th is a Tuesday.
    first("0 0 */2 * 1", 0, day(2096, 1, 9));
    first("0 0 10 * */2", 0, day(2096, 1, 10));
    first("0 0 */9 * */2", 0, day(2096, 1, 10));
  }

  /** The sets of eachStarForItself, written with no star in the first place. */
  private static void sameSetsWithoutAStar() {
    first("0 0 1/2 * 1", 0, day(2096, 1, 2));
    first("0 0 10 * 0-6/2", 0, day(2096, 1, 3));
    first("0 0 1/9 * 0-6/2", 0, day(2096, 1, 3));
  }

  private static void fromTheLastTime() {
    for (String text : new String[] {"* * * * *", "59 23 31 12 *", "0 0 1 1 *", "0 0 31 2 *", "* * 1 * MON"}) {
      next(text, MAXT, NONE);
    }
  }

  private static void neverInTheWindow() {
    for (String text : new String[] {
      "* * 30 2 *", "* * 30,31 2 *", "* * 31 4 *", "* * 31 6 *", "* * 31 9 *", "* * 31 11 *", "* * 31 2,4,6,9,11 *",
      "0 0 31 2 *,1", "0 0 31 2 */2", "0 0 31 4 */7"
    }) {
      for (int t : new int[] {0, 1, day(2096, 2, 29), day(2100, 2, 28), MAXT - 1, MAXT}) {
        next(text, t, NONE);
      }
    }
    // The only 29 February of the window that is a Wednesday is that of 2096, and there is no other at all.
    first("0 0 29 2 */3", 0, day(2096, 2, 29));
    next("0 0 29 2 */2", 0, NONE);
  }

  private static void februaryThirtyFirst() {
    for (int t : new int[] {0, day(2096, 1, 31), day(2096, 2, 29), day(2096, 3, 1), day(2100, 2, 28), MAXT}) {
      next("* * 31 2 *", t, NONE);
    }
    // With no star the weekday alone is enough.
    first("0 0 31 2 1", 0, day(2096, 2, 6));
    first("0 0 31 2 0-7", 0, day(2096, 2, 1));
  }

  /** The whole chain of firings, and NONE after its last one only. */
  private static void noneExactlyThen() {
    CronEngine x = Checks.withStaged(1, "0 0 1 1 *");
    int t = 0;
    for (int year = 2097; year <= 2103; year++) {
      Checks.due("nextFire(" + t + ") of '0 0 1 1 *'", x.nextFire(t), day(year, 1, 1));
      t = day(year, 1, 1);
    }
    for (int after = t; after <= MAXT; after += 1439) {
      Checks.due("nextFire(" + after + ") of '0 0 1 1 *'", x.nextFire(after), NONE);
    }
    CronEngine y = Checks.withStaged(1, "59 23 31 12 *");
    for (int before = MAXT - 1; before >= MAXT - 365 * 1440; before -= 1439) {
      Checks.due("nextFire(" + before + ") of '59 23 31 12 *'", y.nextFire(before), MAXT);
    }
  }

  private static void changesNothing() {
    States.changesNothingAnywhere("nextFire", x -> {
      for (int t : new int[] {-1, 0, 125, 5000, MAXT - 1, MAXT, MAXT + 1, Integer.MIN_VALUE, Integer.MAX_VALUE}) {
        x.nextFire(t);
      }
    });
  }

  private static void clockIsNotInvolved() {
    CronEngine x = Checks.withStaged(1, "0 0 * * *");
    for (int n : new int[] {1, 1439, 1, 1000000, MAXT}) {
      x.advance(n);
      int clock = x.getClock();
      Checks.due("nextFire(0) at clock " + clock, x.nextFire(0), 1440);
      Checks.due("nextFire(1440) at clock " + clock, x.nextFire(1440), 2880);
      Checks.due("nextFire(MAXT) at clock " + clock, x.nextFire(MAXT), NONE);
      Checks.due("getClock() after nextFire", x.getClock(), clock);
    }
  }
}
