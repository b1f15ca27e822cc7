import java.time.YearMonth;

/** The boundary cases of Time and of promises 9 and 10, sentence by sentence. */
public final class CalendarEdgesTest {
  private static final CronEngine X = new CronEngine(1);
  private static final int MAXT = CronEngine.MAXT;
  private static final int NONE = CronEngine.NONE;
  /** Ints far from every part of a date, among them some that are 1 to a narrower number. */
  private static final int[] FAR = {
    Integer.MIN_VALUE, Integer.MIN_VALUE + 1, -65536 + 1, -2096, -1440, 5000, 65536 + 1, (1 << 24) + 1,
    Integer.MAX_VALUE - 1, Integer.MAX_VALUE
  };

  public static void main(String[] args) {
    sentencesOnTime();
    sentencesOnMakeTime();
    sentencesOnTimeField();
    Checks.end();
  }

  private static void sentencesOnTime() {
    Checks.under("What it is");
    Checks.sentence("from 2096-01-01 00:00 to 2103-12-31 23:59", CalendarEdgesTest::window);
    Checks.sentence("That window includes the leap year 2096 and the non-leap century year 2100.",
        CalendarEdgesTest::lengthsOfTheTwoYears);
    Checks.sentence("`MAXT = 4206239`: the last valid time, 2103-12-31 23:59.", CalendarEdgesTest::lastTime);
    Checks.under("Time");
    Checks.sentence("minutes since 2096-01-01 00:00, which is a Sunday", CalendarEdgesTest::firstMinute);
    Checks.sentence("Valid times are `0..MAXT`.", CalendarEdgesTest::validTimes);
    Checks.sentence("so 2096 is leap and 2100 is not", CalendarEdgesTest::leapYears);
    Checks.sentence("Month lengths are 31, 28 (29 in a leap year), 31, 30, 31, 30, 31, 31, 30, 31, 30, 31.",
        CalendarEdgesTest::monthLengths);
    Checks.sentence("day index `d = t / 1440`", CalendarEdgesTest::dayTurns);
    Checks.sentence("hour `= (t % 1440) / 60`", CalendarEdgesTest::hourTurns);
    Checks.sentence("minute `= t % 60`", CalendarEdgesTest::minuteTurns);
    Checks.sentence("day of week `= d % 7` (0 Sunday, 1 Monday, .., 6 Saturday)", CalendarEdgesTest::weekTurns);
    Checks.sentence("year, month (1..12) and day of month (1..31) are those of the day with index `d`",
        CalendarEdgesTest::yearTurns);
  }

  private static void sentencesOnMakeTime() {
    Checks.under("Promise 9: makeTime");
    Checks.sentence("`d * 1440 + minuteOfDay`", CalendarEdgesTest::minutesOfADay);
    Checks.sentence("`year` is not 2096..2103", CalendarEdgesTest::wrongYear);
    Checks.sentence("`month` is not 1..12", CalendarEdgesTest::wrongMonth);
    Checks.sentence("`day` is not 1..(length of that month in that year)", CalendarEdgesTest::wrongDay);
    Checks.sentence("February 29 is accepted in 2096 but not in 2100", CalendarEdgesTest::leapDay);
    Checks.sentence("`minuteOfDay` is not 0..1439", CalendarEdgesTest::wrongMinute);
    Checks.sentence("It answers NONE when any of these holds", CalendarEdgesTest::severalWrong);
    Checks.sentence("For every valid time `t`", CalendarEdgesTest::everyTimeComesBack);
    Checks.sentence("It changes nothing.", CalendarEdgesTest::makeTimeChangesNothing);
  }

  private static void sentencesOnTimeField() {
    Checks.under("Promise 10: timeField");
    Checks.sentence("`t < 0`", CalendarEdgesTest::timeTooSmall);
    Checks.sentence("`t > MAXT`", CalendarEdgesTest::timeTooLarge);
    Checks.sentence("`which` is not 0..5", CalendarEdgesTest::wrongPart);
    Checks.sentence("| T_YEAR | year (2096..2103) |", () -> ends(CronEngine.T_YEAR, 2096, 2103));
    Checks.sentence("| T_MONTH | month (1..12) |", () -> ends(CronEngine.T_MONTH, 1, 12));
    Checks.sentence("| T_DAY | day of month (1..31) |", () -> ends(CronEngine.T_DAY, 1, 31));
    Checks.sentence("| T_HOUR | hour (0..23) |", () -> ends(CronEngine.T_HOUR, 0, 23));
    Checks.sentence("| T_MINUTE | minute (0..59) |", () -> ends(CronEngine.T_MINUTE, 0, 59));
    Checks.sentence("| T_DOW | day of week (0..6) |", () -> ends(CronEngine.T_DOW, 0, 6));
    Checks.sentence("It changes nothing.", CalendarEdgesTest::timeFieldChangesNothing);
  }

  private static void parts(int t, String want) {
    StringBuilder all = new StringBuilder();
    for (int which = 0; which <= 5; which++) {
      all.append(which == 0 ? "" : " ").append(X.timeField(t, which));
    }
    Checks.due("year, month, day, hour, minute and weekday of " + t, all.toString(), want);
  }

  private static void date(int t, int year, int month, int day) {
    Checks.due("the year of " + t, X.timeField(t, CronEngine.T_YEAR), year);
    Checks.due("the month of " + t, X.timeField(t, CronEngine.T_MONTH), month);
    Checks.due("the day of " + t, X.timeField(t, CronEngine.T_DAY), day);
  }

  private static void made(int year, int month, int day, int minute, int want) {
    Checks.due("makeTime(" + year + ", " + month + ", " + day + ", " + minute + ")",
        X.makeTime(year, month, day, minute), want);
  }

  // ---- time ----

  private static void window() {
    made(2095, 12, 31, 1439, NONE);
    made(2096, 1, 1, 0, 0);
    made(2103, 12, 31, 1439, MAXT);
    made(2104, 1, 1, 0, NONE);
  }

  private static void lengthsOfTheTwoYears() {
    int days2096 = (X.makeTime(2097, 1, 1, 0) - X.makeTime(2096, 1, 1, 0)) / 1440;
    int days2100 = (X.makeTime(2101, 1, 1, 0) - X.makeTime(2100, 1, 1, 0)) / 1440;
    Checks.due("the days of 2096", days2096, 366);
    Checks.due("the days of 2100", days2100, 365);
  }

  private static void lastTime() {
    Checks.due("MAXT", MAXT, 4206239);
    parts(4206239, "2103 12 31 23 59 1");
    parts(4206240, "-1 -1 -1 -1 -1 -1");
  }

  private static void firstMinute() {
    parts(0, "2096 1 1 0 0 0");
    parts(1, "2096 1 1 0 1 0");
  }

  private static void validTimes() {
    for (int which = 0; which <= 5; which++) {
      Checks.due("timeField(-1, " + which + ")", X.timeField(-1, which), -1);
      Checks.due("timeField(0, " + which + ") is a part", X.timeField(0, which) >= 0, true);
      Checks.due("timeField(MAXT, " + which + ") is a part", X.timeField(MAXT, which) >= 0, true);
      Checks.due("timeField(MAXT + 1, " + which + ")", X.timeField(MAXT + 1, which), -1);
    }
  }

  private static void leapYears() {
    for (int year = 2096; year <= 2103; year++) {
      int afterThe28th = Checks.at(year, 2, 28, 23, 59) + 1;
      if (year == 2096) {
        date(afterThe28th, year, 2, 29);
        date(afterThe28th + 1439, year, 2, 29);
        date(afterThe28th + 1440, year, 3, 1);
      } else {
        date(afterThe28th - 1, year, 2, 28);
        date(afterThe28th, year, 3, 1);
      }
    }
    made(2097, 1, 1, 0, 366 * 1440);
    made(2098, 1, 1, 0, (366 + 365) * 1440);
    made(2100, 1, 1, 0, (366 + 3 * 365) * 1440);
    made(2101, 1, 1, 0, (366 + 4 * 365) * 1440);
  }

  private static void monthLengths() {
    int[] lengths = {31, 28, 31, 30, 31, 30, 31, 31, 30, 31, 30, 31};
    int t = 0;
    for (int year = 2096; year <= 2103; year++) {
      for (int month = 1; month <= 12; month++) {
        int length = lengths[month - 1] + (year == 2096 && month == 2 ? 1 : 0);
        date(t, year, month, 1);
        made(year, month, 1, 0, t);
        t += length * 1440;
        date(t - 1, year, month, length);
        made(year, month, length, 1439, t - 1);
      }
    }
    Checks.due("the minute after the last month", t, MAXT + 1);
  }

  private static void dayTurns() {
    parts(1439, "2096 1 1 23 59 0");
    parts(1440, "2096 1 2 0 0 1");
    parts(1441, "2096 1 2 0 1 1");
    parts(2 * 1440 - 1, "2096 1 2 23 59 1");
    parts(2 * 1440, "2096 1 3 0 0 2");
  }

  private static void hourTurns() {
    for (int day : new int[] {0, 1, 59, 1520, 2920}) {
      for (int hour = 0; hour < 24; hour++) {
        int t = day * 1440 + hour * 60;
        Checks.due("the hour of " + t, X.timeField(t, CronEngine.T_HOUR), hour);
        Checks.due("the hour of " + (t + 59), X.timeField(t + 59, CronEngine.T_HOUR), hour);
      }
    }
  }

  private static void minuteTurns() {
    for (int start : new int[] {0, 60, 1380, 1440, MAXT - 59}) {
      for (int minute = 0; minute < 60; minute++) {
        int t = start + minute;
        Checks.due("the minute of " + t, X.timeField(t, CronEngine.T_MINUTE), minute);
      }
    }
  }

  private static void weekTurns() {
    for (int day = 0; day <= 2920; day++) {
      int t = day * 1440;
      Checks.due("the weekday of " + t, X.timeField(t, CronEngine.T_DOW), day % 7);
      Checks.due("the weekday of " + (t + 1439), X.timeField(t + 1439, CronEngine.T_DOW), day % 7);
    }
    // The turn from Saturday to Sunday, and the days around the ends of February.
    parts(7 * 1440 - 1, "2096 1 7 23 59 6");
    parts(7 * 1440, "2096 1 8 0 0 0");
    parts(84960, "2096 2 29 0 0 3");
    parts(2188799, "2100 2 28 23 59 0");
    parts(2188800, "2100 3 1 0 0 1");
  }

  private static void yearTurns() {
    for (int year = 2096; year <= 2103; year++) {
      int first = Checks.at(year, 1, 1, 0, 0);
      date(first, year, 1, 1);
      date(first + 1439, year, 1, 1);
      if (year > 2096) {
        date(first - 1, year - 1, 12, 31);
      }
    }
    date(MAXT, 2103, 12, 31);
  }

  // ---- promise 9 ----

  private static void minutesOfADay() {
    for (int day : new int[] {0, 59, 60, 1519, 1520, 2920}) {
      int t = day * 1440;
      int year = X.timeField(t, CronEngine.T_YEAR);
      int month = X.timeField(t, CronEngine.T_MONTH);
      int dayOfMonth = X.timeField(t, CronEngine.T_DAY);
      for (int minute = 0; minute < 1440; minute++) {
        made(year, month, dayOfMonth, minute, t + minute);
      }
    }
  }

  private static void wrongYear() {
    for (int year = 2096; year <= 2103; year++) {
      made(year, 1, 1, 0, Checks.at(year, 1, 1, 0, 0));
      made(year, 12, 31, 1439, Checks.at(year, 12, 31, 23, 59));
    }
    for (int year : new int[] {2095, 2104, 2094, 2105, 2400, 2000, 0, -1, -2096, 96, 2096 + 65536, 2096 - 65536}) {
      made(year, 1, 1, 0, NONE);
      made(year, 12, 31, 1439, NONE);
      made(year, 2, 29, 720, NONE);
    }
    for (int far : FAR) {
      made(far, 1, 1, 0, NONE);
    }
  }

  private static void wrongMonth() {
    for (int year = 2096; year <= 2103; year++) {
      made(year, 1, 1, 0, Checks.at(year, 1, 1, 0, 0));
      made(year, 12, 1, 0, Checks.at(year, 12, 1, 0, 0));
      for (int month : new int[] {0, 13, -1, 14, -11, 24, 25, 1 + 12 * 8}) {
        made(year, month, 1, 0, NONE);
        made(year, month, 31, 1439, NONE);
      }
      for (int far : FAR) {
        made(year, far, 1, 0, NONE);
      }
    }
  }

  private static void wrongDay() {
    for (int year = 2096; year <= 2103; year++) {
      for (int month = 1; month <= 12; month++) {
        int length = YearMonth.of(year, month).lengthOfMonth();
        made(year, month, 0, 0, NONE);
        made(year, month, 1, 0, Checks.at(year, month, 1, 0, 0));
        made(year, month, length, 0, Checks.at(year, month, length, 0, 0));
        made(year, month, length + 1, 0, NONE);
        made(year, month, 32, 0, NONE);
        made(year, month, -1, 0, NONE);
        for (int far : FAR) {
          made(year, month, far, 0, NONE);
        }
      }
    }
  }

  private static void leapDay() {
    made(2096, 2, 29, 0, 84960);
    made(2096, 2, 29, 1439, 84960 + 1439);
    made(2096, 2, 30, 0, NONE);
    for (int year = 2097; year <= 2103; year++) {
      made(year, 2, 28, 1439, Checks.at(year, 2, 28, 23, 59));
      made(year, 2, 29, 0, NONE);
      made(year, 2, 29, 1439, NONE);
    }
  }

  private static void wrongMinute() {
    int[][] dates = {{2096, 1, 1}, {2096, 2, 29}, {2100, 2, 28}, {2103, 12, 31}};
    for (int[] date : dates) {
      int start = Checks.at(date[0], date[1], date[2], 0, 0);
      made(date[0], date[1], date[2], -1, NONE);
      made(date[0], date[1], date[2], 0, start);
      made(date[0], date[1], date[2], 1439, start + 1439);
      made(date[0], date[1], date[2], 1440, NONE);
      for (int far : FAR) {
        made(date[0], date[1], date[2], far, NONE);
      }
    }
  }

  /** Each way to have some of the four wrong, too small or too large; together they could even make a valid time. */
  private static void severalWrong() {
    int[][] choices = {{2096, 2095, 2104}, {1, 0, 13}, {1, 0, 32}, {0, -1, 1440}};
    for (int i = 1; i < 81; i++) {
      made(choices[0][i / 27], choices[1][i / 9 % 3], choices[2][i / 3 % 3], choices[3][i % 3], NONE);
    }
    made(2095, 12, 32, 0, NONE);
    made(2095, 12, 31, 1440, NONE);
    made(2096, 1, 2, -1440, NONE);
    made(2096, 13, 1, 0, NONE);
  }

  private static void everyTimeComesBack() {
    int t = 0;
    while (t <= MAXT && comesBack(t)) {
      t++;
    }
    Checks.due("the first time that makeTime does not give back", t, MAXT + 1);
  }

  private static boolean comesBack(int t) {
    int year = X.timeField(t, CronEngine.T_YEAR);
    int month = X.timeField(t, CronEngine.T_MONTH);
    int day = X.timeField(t, CronEngine.T_DAY);
    int minute = X.timeField(t, CronEngine.T_HOUR) * 60 + X.timeField(t, CronEngine.T_MINUTE);
    return X.makeTime(year, month, day, minute) == t;
  }

  private static void makeTimeChangesNothing() {
    States.changesNothingAnywhere("makeTime", x -> {
      x.makeTime(2096, 1, 1, 0);
      x.makeTime(2103, 12, 31, 1439);
      x.makeTime(2100, 2, 29, 0);
      x.makeTime(Integer.MIN_VALUE, 0, 0, 0);
      x.makeTime(2100, 1, 1, Integer.MAX_VALUE);
    });
  }

  // ---- promise 10 ----

  private static void timeTooSmall() {
    for (int t : new int[] {-1, -2, -59, -60, -1439, -1440, -MAXT, Integer.MIN_VALUE + 1, Integer.MIN_VALUE}) {
      for (int which = -1; which <= 6; which++) {
        Checks.due("timeField(" + t + ", " + which + ")", X.timeField(t, which), -1);
      }
    }
    parts(0, "2096 1 1 0 0 0");
  }

  private static void timeTooLarge() {
    for (int t : new int[] {MAXT + 1, MAXT + 2, MAXT + 1440, 5000000, Integer.MAX_VALUE - 1, Integer.MAX_VALUE}) {
      for (int which = -1; which <= 6; which++) {
        Checks.due("timeField(" + t + ", " + which + ")", X.timeField(t, which), -1);
      }
    }
    parts(MAXT, "2103 12 31 23 59 1");
  }

  private static void wrongPart() {
    for (int t : new int[] {0, 1, 1439, 84960, 2188800, MAXT}) {
      for (int which : new int[] {-1, 6, -2, 7, 8, 64, 256, 65536, Integer.MIN_VALUE, Integer.MAX_VALUE}) {
        Checks.due("timeField(" + t + ", " + which + ")", X.timeField(t, which), -1);
      }
    }
  }

  /** Over the hours of all days, the least and the greatest answer are those that the table names. */
  private static void ends(int which, int lo, int hi) {
    int least = Integer.MAX_VALUE;
    int greatest = Integer.MIN_VALUE;
    for (int t = 0; t <= MAXT; t += 59) {
      least = Math.min(least, X.timeField(t, which));
      greatest = Math.max(greatest, X.timeField(t, which));
    }
    Checks.due("the least answer for part " + which, least, lo);
    Checks.due("the greatest answer for part " + which, greatest, hi);
  }

  private static void timeFieldChangesNothing() {
    States.changesNothingAnywhere("timeField", x -> {
      for (int which = -1; which <= 6; which++) {
        x.timeField(0, which);
        x.timeField(MAXT, which);
        x.timeField(-1, which);
        x.timeField(MAXT + 1, which);
      }
    });
  }
}
