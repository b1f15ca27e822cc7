import java.time.DayOfWeek;
import java.time.LocalDateTime;
import java.util.function.Predicate;

/** Promise 8: nextFire. */
public final class NextFireTest {
  private static final int MAXT = CronEngine.MAXT;
  private static final int NONE = CronEngine.NONE;

  public static void main(String[] args) {
    checkEdgesOfTheWindow();
    checkStrictlyAfter();
    checkNoStagedSchedule();
    checkNever();
    checkLeapDays();
    checkDayCondition();
    checkByCallsOfTheFace();
    checkClockIsNotInvolved();
    checkNothingChanges();
    Checks.end();
  }

  private static void next(String text, int t, int want) {
    CronEngine x = Checks.withStaged(1, text);
    Checks.due("'" + text + "': nextFire(" + t + ")", x.nextFire(t), want);
  }

  private static void checkEdgesOfTheWindow() {
    next("* * * * *", 0, 1);
    next("* * * * *", MAXT - 1, MAXT);
    for (int t : new int[] {MAXT, MAXT + 1, -1, -2, -1440, Integer.MIN_VALUE, Integer.MAX_VALUE}) {
      next("* * * * *", t, NONE);
    }
    next("0 0 1 1 *", 0, Checks.at(2097, 1, 1, 0, 0));
    next("59 23 31 12 *", Checks.at(2102, 12, 31, 23, 59), MAXT);
    next("59 23 31 12 *", MAXT - 1, MAXT);
    next("59 23 31 12 *", MAXT, NONE);
    next("58 23 31 12 *", MAXT - 1, NONE);
    next("0 0 1 1 *", Checks.at(2103, 1, 1, 0, 0), NONE);
    next("0 0 1 1 *", Checks.at(2103, 1, 1, 0, 0) - 1, Checks.at(2103, 1, 1, 0, 0));
  }

  private static void checkStrictlyAfter() {
    next("0 0 * * *", 0, 1440);
    next("0 0 * * *", 1439, 1440);
    next("0 0 * * *", 1440, 2880);
    next("30 12 * * *", 749, 750);
    next("30 12 * * *", 750, 2190);
    next("30 * * * *", 30, 90);
    next("59 * * * *", 0, 59);
    next("0 * * * *", 59, 60);
    next("59 23 * * *", 1439, 2879);
    next("5,10 3,4 * * *", 190, 245);
    next("5,10 3,4 * * *", 250, 1440 + 185);
  }

  private static void checkNoStagedSchedule() {
    CronEngine x = new CronEngine(1);
    Checks.due("nextFire(0) of a new object", x.nextFire(0), NONE);
    Checks.type(x, "* * * * *");
    Checks.due("nextFire(0) of a text not compiled", x.nextFire(0), NONE);
    x.compile();
    Checks.due("nextFire(0) of a compiled text", x.nextFire(0), 1);
    x.compile();
    Checks.due("nextFire(0) after a rejected text", x.nextFire(0), NONE);
  }

  private static void checkNever() {
    for (String text : new String[] {"0 0 31 2 *", "0 0 30,31 2 */2", "* * 31 4,6,9,11 *", "0 0 31 2,4 *,1"}) {
      next(text, 0, NONE);
      next(text, 84960, NONE);
      next(text, MAXT, NONE);
    }
    next("0 0 */30,30 2 *", 0, Checks.at(2096, 2, 1, 0, 0));
    next("0 0 31 2 1", 0, Checks.at(2096, 2, 6, 0, 0));
    next("0 0 31 2 1-5", Checks.at(2100, 2, 26, 0, 0), Checks.at(2101, 2, 1, 0, 0));
  }

  private static void checkLeapDays() {
    next("0 0 29 2 *", 0, 84960);
    next("0 0 29 2 *", 84959, 84960);
    next("0 0 29 2 *", 84960, NONE);
    next("0 0 1 3 *", Checks.at(2100, 2, 28, 23, 59), Checks.at(2100, 3, 1, 0, 0));
    next("* * * * *", 2188799, 2188800);
    next("0 0 29 * *", Checks.at(2100, 1, 29, 0, 0), Checks.at(2100, 3, 29, 0, 0));
    next("0 0 * 2 *", Checks.at(2100, 2, 28, 0, 0), Checks.at(2101, 2, 1, 0, 0));
    next("0 0 * 2 *", Checks.at(2096, 2, 28, 0, 0), Checks.at(2096, 2, 29, 0, 0));
    next("0 0 28-31 2 *", Checks.at(2099, 2, 28, 0, 0), Checks.at(2100, 2, 28, 0, 0));
  }

  private static void checkDayCondition() {
    Predicate<LocalDateTime> friday = day -> day.getDayOfWeek() == DayOfWeek.FRIDAY;
    Predicate<LocalDateTime> thirteenth = day -> day.getDayOfMonth() == 13;
    Predicate<LocalDateTime> odd = day -> day.getDayOfMonth() % 2 == 1;
    Predicate<LocalDateTime> evenWeekday = day -> day.getDayOfWeek().getValue() % 7 % 2 == 0;
    Predicate<LocalDateTime> any = day -> true;
    fires("0 0 13 * 5", friday.or(thirteenth));
    fires("0 0 13 * FRI", friday.or(thirteenth));
    fires("0 0 * * 5", friday);
    fires("0 0 13 * *", thirteenth);
    fires("0 0 */2 * 5", friday.and(odd));
    fires("0 0 13 * */2", thirteenth.and(evenWeekday));
    fires("0 0 */2 * */2", odd.and(evenWeekday));
    fires("0 0 *,13 * 5", friday);
    fires("0 0 13,* * 5", any);
    fires("0 0 13 * *,5", thirteenth);
    fires("0 0 13 * 5,*", any);
    fires("0 0 1-31 * 5", any);
    fires("0 0 1/2 * 5", friday.or(odd));
    fires("0 0 13 * 0-7", any);
    fires("0 0 13 * 0-6/2", thirteenth.or(evenWeekday));
    fires("0 0 13 * 7", thirteenth.or(day -> day.getDayOfWeek() == DayOfWeek.SUNDAY));
    fires("0 0 * * 7", day -> day.getDayOfWeek() == DayOfWeek.SUNDAY);
    fires("0 0 * * 6-7", day -> day.getDayOfWeek().getValue() >= 6);
    fires("0 0 31 * *", day -> day.getDayOfMonth() == 31);
    fires("0 0 13 2,8 5", friday.or(thirteenth).and(day -> day.getMonthValue() == 2 || day.getMonthValue() == 8));
    fires("0 0 * JUN-jul *", day -> day.getMonthValue() == 6 || day.getMonthValue() == 7);
  }

  /** Every firing in the window, at midnight of the days that are due; time 0 itself is never next. */
  private static void fires(String text, Predicate<LocalDateTime> day) {
    CronEngine x = Checks.withStaged(1, text);
    int t = 0;
    for (int d = 1; d <= 2920; d++) {
      LocalDateTime midnight = Checks.START.plusDays(d);
      if (day.test(midnight)) {
        Checks.due("'" + text + "': nextFire(" + t + ")", x.nextFire(t), d * 1440);
        Checks.due("'" + text + "': nextFire(" + (d * 1440 - 1) + ")", x.nextFire(d * 1440 - 1), d * 1440);
        t = d * 1440;
      }
    }
    Checks.due("'" + text + "': nextFire(" + t + ")", x.nextFire(t), NONE);
  }

  /** The promise's own words: the least time after t that the other calls affirm. */
  private static void checkByCallsOfTheFace() {
    String[] texts = {"*/7 3-5 1,15,*/9 * 2", "59 23 31 1/5 mon", "0-3 0,23 28-31 2,12 7", "17 */6 * 3 1-5"};
    for (String text : texts) {
      CronEngine x = Checks.withStaged(1, text);
      for (int start : new int[] {0, 84000, 1051000, 2187000, 4203300}) {
        int want = leastAfter(x, start + 2900);
        for (int t = start + 2900; t >= start; t--) {
          Checks.due("'" + text + "': nextFire(" + t + ")", x.nextFire(t), want);
          want = matches(x, t) ? t : want;
        }
      }
    }
  }

  private static int leastAfter(CronEngine x, int t) {
    for (int m = t + 1; m <= MAXT; m++) {
      if (matches(x, m)) {
        return m;
      }
    }
    return NONE;
  }

  private static boolean matches(CronEngine x, int m) {
    boolean dom = x.fieldHas(CronEngine.F_DOM, x.timeField(m, CronEngine.T_DAY));
    boolean dow = x.fieldHas(CronEngine.F_DOW, x.timeField(m, CronEngine.T_DOW));
    boolean starred = x.dayStarred(CronEngine.F_DOM) || x.dayStarred(CronEngine.F_DOW);
    return x.fieldHas(CronEngine.F_MINUTE, x.timeField(m, CronEngine.T_MINUTE))
        && x.fieldHas(CronEngine.F_HOUR, x.timeField(m, CronEngine.T_HOUR))
        && x.fieldHas(CronEngine.F_MONTH, x.timeField(m, CronEngine.T_MONTH))
        && (starred ? dom && dow : dom || dow);
  }

  private static void checkClockIsNotInvolved() {
    CronEngine x = Checks.withStaged(1, "0 0 * * *");
    x.advance(1000000);
    Checks.due("nextFire(0) at a later clock", x.nextFire(0), 1440);
    x.advance(Integer.MAX_VALUE);
    Checks.due("nextFire(0) at the last clock", x.nextFire(0), 1440);
    Checks.due("nextFire(2880) at the last clock", x.nextFire(2880), 4320);
  }

  private static void checkNothingChanges() {
    CronEngine x = Checks.withStaged(2, "*/5 * 1 * *");
    x.addJob(2, 0);
    x.advance(777);
    Checks.type(x, "1 2 3");
    String before = Checks.state(x);
    for (int t : new int[] {0, 5, 777, MAXT, -1, MAXT + 1}) {
      x.nextFire(t);
    }
    Checks.due("the state after nextFire", Checks.state(x), before);
    Checks.type(x, " 4 5");
    Checks.due("compile() after nextFire", x.compile(), true);
  }
}
