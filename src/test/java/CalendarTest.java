import java.time.LocalDate;
import java.time.YearMonth;

/** Promises 9 and 10: makeTime and timeField, against the calendar of the Java library. */
public final class CalendarTest {
  private static final CronEngine X = new CronEngine(1);

  public static void main(String[] args) {
    checkEveryDay();
    checkEveryMinuteOfADay();
    checkDaysOutsideTheirMonth();
    checkWrongParts();
    checkWrongTimes();
    checkNothingChanges();
    Checks.end();
  }

  private static void checkEveryDay() {
    LocalDate date = LocalDate.of(2096, 1, 1);
    for (int d = 0; d <= 2920; d++) {
      for (int minute : new int[] {0, 1, 59, 60, 61, 719, 720, 1380, 1438, 1439}) {
        checkTime(d * 1440 + minute, date, minute);
      }
      date = date.plusDays(1);
    }
    Checks.due("the day after the last one", date, LocalDate.of(2104, 1, 1));
  }

  private static void checkEveryMinuteOfADay() {
    LocalDate date = LocalDate.of(2100, 2, 28);
    for (int minute = 0; minute < 1440; minute++) {
      checkTime(2188799 - 1439 + minute, date, minute);
    }
  }

  private static void checkTime(int t, LocalDate date, int minute) {
    String call = "timeField(" + t + ", ";
    Checks.due(call + "T_YEAR)", X.timeField(t, 0), date.getYear());
    Checks.due(call + "T_MONTH)", X.timeField(t, 1), date.getMonthValue());
    Checks.due(call + "T_DAY)", X.timeField(t, 2), date.getDayOfMonth());
    Checks.due(call + "T_HOUR)", X.timeField(t, 3), minute / 60);
    Checks.due(call + "T_MINUTE)", X.timeField(t, 4), minute % 60);
    Checks.due(call + "T_DOW)", X.timeField(t, 5), date.getDayOfWeek().getValue() % 7);
    Checks.due("makeTime of " + date + " and " + minute,
        X.makeTime(date.getYear(), date.getMonthValue(), date.getDayOfMonth(), minute), t);
  }

  private static void checkDaysOutsideTheirMonth() {
    for (int year = 2096; year <= 2103; year++) {
      for (int month = 1; month <= 12; month++) {
        int length = YearMonth.of(year, month).lengthOfMonth();
        for (int day = length + 1; day <= 70; day++) {
          none(year, month, day, 0);
        }
        for (int day = -40; day <= 0; day++) {
          none(year, month, day, 1439);
        }
      }
    }
  }

  private static void checkWrongParts() {
    for (int far : Checks.FAR_INTS) {
      none(far, 1, 1, 0);
      none(2096, far, 1, 0);
      none(2096, 1, far, 0);
      none(far, far, far, 0);
      if (far < 0 || far > 1439) {
        none(2096, 1, 1, far);
      }
    }
    for (int year : new int[] {2095, 2104, 2000, 2400, 2092, 0, 1, 7, 96, 1970, 2088}) {
      none(year, 1, 1, 0);
      none(year, 12, 31, 1439);
      none(year, 2, 29, 0);
    }
    for (int month : new int[] {0, 13, 14, -11, 24, 25, 12 + 96}) {
      for (int year = 2096; year <= 2103; year++) {
        none(year, month, 1, 0);
      }
    }
    for (int minute : new int[] {-1, 1440, 1441, 2880, -1440}) {
      none(2096, 1, 1, minute);
      none(2100, 6, 15, minute);
      none(2103, 12, 31, minute);
    }
    none(2100, 2, 29, 0);
    none(2097, 2, 29, 0);
    Checks.due("makeTime(2096, 2, 29, 0)", X.makeTime(2096, 2, 29, 0), 84960);
    Checks.due("makeTime of the last time", X.makeTime(2103, 12, 31, 1439), CronEngine.MAXT);
  }

  private static void none(int year, int month, int day, int minute) {
    Checks.due("makeTime(" + year + ", " + month + ", " + day + ", " + minute + ")",
        X.makeTime(year, month, day, minute), CronEngine.NONE);
  }

  private static void checkWrongTimes() {
    int[] wrongTimes = {
      -1, -2, -60, -1440, Integer.MIN_VALUE, CronEngine.MAXT + 1, CronEngine.MAXT + 1440, 5000000, Integer.MAX_VALUE
    };
    for (int which = -2; which <= 8; which++) {
      for (int t : wrongTimes) {
        Checks.due("timeField(" + t + ", " + which + ")", X.timeField(t, which), -1);
      }
    }
    for (int t : new int[] {0, 1439, 84960, 2188799, CronEngine.MAXT}) {
      for (int which : new int[] {-1, -2, 6, 7, 8, 256, Integer.MIN_VALUE, Integer.MAX_VALUE}) {
        Checks.due("timeField(" + t + ", " + which + ")", X.timeField(t, which), -1);
      }
    }
  }

  private static void checkNothingChanges() {
    CronEngine x = Checks.withStaged(2, "*/5 * * * *");
    x.addJob(2, 0);
    x.advance(777);
    Checks.type(x, "1 2 3");
    String before = Checks.state(x);
    x.makeTime(2100, 2, 28, 5);
    x.makeTime(2100, 2, 29, 5);
    x.timeField(123456, 2);
    x.timeField(-1, 9);
    Checks.due("the state after makeTime and timeField", Checks.state(x), before);
    Checks.type(x, " 4 5");
    Checks.due("compile() after makeTime and timeField", x.compile(), true);
  }
}
