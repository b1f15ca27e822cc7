import java.time.LocalDate;
import java.time.YearMonth;
import java.time.temporal.ChronoUnit;
import java.util.Arrays;
import java.util.List;
import java.util.function.ToIntFunction;
import java.util.regex.Matcher;
import java.util.regex.Pattern;

/** The document said a second time, with the means of the Java library. */
final class Reference {
  private static final int MAXT = 4206239;
  private static final int[] LOW = {0, 0, 1, 1, 0};
  private static final int[] HIGH = {59, 23, 31, 12, 7};
  private static final List<String> MONTH_NAMES =
      List.of("JAN", "FEB", "MAR", "APR", "MAY", "JUN", "JUL", "AUG", "SEP", "OCT", "NOV", "DEC");
  private static final List<String> WEEKDAY_NAMES = List.of("SUN", "MON", "TUE", "WED", "THU", "FRI", "SAT");
  private static final Pattern ITEM = Pattern.compile(
      "(?:\\*|([0-9]{1,2}|[A-Za-z]{3})(?:-([0-9]{1,2}|[A-Za-z]{3}))?)(?:/([0-9]{1,2}))?");
  private static final LocalDate[] DATES = dates();
  private static final int[] MONTHS = ofEachDate(LocalDate::getMonthValue);
  private static final int[] DAYS = ofEachDate(LocalDate::getDayOfMonth);
  private static final int[] WEEKDAYS = ofEachDate(date -> date.getDayOfWeek().getValue() % 7);

  private static LocalDate[] dates() {
    LocalDate[] all = new LocalDate[2921];
    for (int d = 0; d < all.length; d++) {
      all[d] = LocalDate.of(2096, 1, 1).plusDays(d);
    }
    return all;
  }

  private static int[] ofEachDate(ToIntFunction<LocalDate> part) {
    return Arrays.stream(DATES).mapToInt(part).toArray();
  }

  static final class Schedule {
    final boolean[][] sets = new boolean[5][60];
    String text;
    boolean domStarred;
    boolean dowStarred;

    boolean dayMatches(int d) {
      boolean dom = sets[2][DAYS[d]];
      boolean dow = sets[4][WEEKDAYS[d]];
      return sets[3][MONTHS[d]] && (domStarred || dowStarred ? dom && dow : dom || dow);
    }

    boolean matches(int m) {
      return sets[0][m % 60] && sets[1][m / 60 % 24] && dayMatches(m / 1440);
    }

    int next(int t) {
      for (int m = t + 1; m <= MAXT; m++) {
        if (!dayMatches(m / 1440)) {
          m += 1439 - m % 1440;
        } else if (matches(m)) {
          return m;
        }
      }
      return -1;
    }
  }

  static final class Job {
    Schedule schedule;
    int misfire;
    int concurrency;
    int running;
    int started;
    int completed;
    int dropped;
    int cancelled;
    int misfires;

    Job copy() {
      Job copy = new Job();
      copy.schedule = schedule;
      copy.misfire = misfire;
      copy.concurrency = concurrency;
      copy.running = running;
      copy.started = started;
      copy.completed = completed;
      copy.dropped = dropped;
      copy.cancelled = cancelled;
      copy.misfires = misfires;
      return copy;
    }

    void trigger() {
      if (concurrency == 1 && running > 0) {
        dropped++;
        return;
      }
      if (concurrency == 2 && running > 0) {
        cancelled += running;
        running = 0;
      }
      running++;
      started++;
    }
  }

  private final int cap;
  private int clock = 0;
  private String text = "";
  private Schedule staged = null;
  private final Job[] jobs = new Job[8];

  Reference(int cap) {
    this.cap = Math.min(8, Math.max(1, cap));
  }

  Reference copy() {
    Reference copy = new Reference(cap);
    copy.clock = clock;
    copy.text = text;
    copy.staged = staged;
    for (int slot = 0; slot < jobs.length; slot++) {
      copy.jobs[slot] = jobs[slot] == null ? null : jobs[slot].copy();
    }
    return copy;
  }

  static Schedule parse(String text) {
    String[] fields = text.strip().split(" +");
    if (fields.length != 5) {
      return null;
    }
    Schedule schedule = new Schedule();
    schedule.text = text;
    for (int field = 0; field < 5; field++) {
      for (String item : fields[field].split(",", -1)) {
        if (!addItem(field, item, schedule.sets[field])) {
          return null;
        }
      }
    }
    schedule.sets[4][0] |= schedule.sets[4][7];
    schedule.sets[4][7] = false;
    schedule.domStarred = fields[2].startsWith("*");
    schedule.dowStarred = fields[4].startsWith("*");
    return schedule;
  }

  private static boolean addItem(int field, String item, boolean[] set) {
    Matcher match = ITEM.matcher(item);
    if (!match.matches()) {
      return false;
    }
    int step = match.group(3) == null ? 1 : Integer.parseInt(match.group(3));
    int a = LOW[field];
    int b = HIGH[field];
    if (match.group(1) != null) {
      a = value(field, match.group(1));
      if (match.group(2) != null) {
        b = value(field, match.group(2));
      } else if (match.group(3) == null) {
        b = a;
      }
    }
    if (step == 0 || a < LOW[field] || a > HIGH[field] || b < LOW[field] || b > HIGH[field] || a > b) {
      return false;
    }
    for (int v = a; v <= b; v += step) {
      set[v] = true;
    }
    return true;
  }

  private static int value(int field, String atom) {
    if (Character.isDigit(atom.charAt(0))) {
      return Integer.parseInt(atom);
    }
    if (field == 3 && MONTH_NAMES.contains(atom.toUpperCase())) {
      return MONTH_NAMES.indexOf(atom.toUpperCase()) + 1;
    }
    return field == 4 ? WEEKDAY_NAMES.indexOf(atom.toUpperCase()) : -1;
  }

  void clearText() {
    text = "";
  }

  boolean putChar(int c) {
    if (c < 32 || c > 126 || text.length() == 64) {
      return false;
    }
    text += (char) c;
    return true;
  }

  int textLength() {
    return text.length();
  }

  boolean compile() {
    staged = parse(text);
    text = "";
    return staged != null;
  }

  boolean fieldHas(int field, int v) {
    return staged != null && field >= 0 && field <= 4 && v >= 0 && v < 60 && staged.sets[field][v];
  }

  boolean dayStarred(int field) {
    return staged != null && (field == 2 && staged.domStarred || field == 4 && staged.dowStarred);
  }

  int nextFire(int t) {
    return staged == null || t < 0 || t > MAXT ? -1 : staged.next(t);
  }

  int makeTime(int year, int month, int day, int minuteOfDay) {
    if (year < 2096 || year > 2103 || month < 1 || month > 12 || minuteOfDay < 0 || minuteOfDay > 1439) {
      return -1;
    }
    if (day < 1 || day > YearMonth.of(year, month).lengthOfMonth()) {
      return -1;
    }
    return (int) DATES[0].until(LocalDate.of(year, month, day), ChronoUnit.DAYS) * 1440 + minuteOfDay;
  }

  int timeField(int t, int which) {
    if (t < 0 || t > MAXT || which < 0 || which > 5) {
      return -1;
    }
    int d = t / 1440;
    int[] parts = {DATES[d].getYear(), MONTHS[d], DAYS[d], t / 60 % 24, t % 60, WEEKDAYS[d]};
    return parts[which];
  }

  int addJob(int misfire, int concurrency) {
    if (staged == null || misfire < 0 || misfire > 2 || concurrency < 0 || concurrency > 2) {
      return -1;
    }
    for (int slot = 0; slot < 8; slot++) {
      if (jobs[slot] == null) {
        jobs[slot] = new Job();
        jobs[slot].schedule = staged;
        jobs[slot].misfire = misfire;
        jobs[slot].concurrency = concurrency;
        return slot;
      }
    }
    return -1;
  }

  private Job job(int slot) {
    return slot < 0 || slot > 7 ? null : jobs[slot];
  }

  /** The text of the schedule that the job in a slot holds, or null if the slot is empty. */
  String textOf(int slot) {
    return job(slot) == null ? null : job(slot).schedule.text;
  }

  boolean removeJob(int slot) {
    if (job(slot) == null) {
      return false;
    }
    jobs[slot] = null;
    return true;
  }

  int advance(int n) {
    if (n < 1 || clock == MAXT) {
      return -1;
    }
    int c = clock;
    int c2 = (int) Math.min((long) c + n, MAXT);
    clock = c2;
    int sum = 0;
    for (Job job : jobs) {
      if (job != null) {
        int before = job.started;
        int k = count(job.schedule, c, c2);
        if (k >= 1 && job.schedule.next(c) < c2) {
          job.misfires++;
        }
        int triggers = Math.min(k, cap);
        if (job.misfire == 0) {
          triggers = Math.min(k, 1);
        } else if (job.misfire == 1) {
          triggers = job.schedule.matches(c2) ? 1 : 0;
        }
        for (int i = 0; i < triggers; i++) {
          job.trigger();
        }
        sum += job.started - before;
      }
    }
    return sum;
  }

  /** The matches in (c, c2], of which more than nine never make a difference. */
  private static int count(Schedule schedule, int c, int c2) {
    int k = 0;
    int m = schedule.next(c);
    while (m != -1 && m <= c2 && k < 9) {
      k++;
      m = schedule.next(m);
    }
    return k;
  }

  boolean complete(int slot) {
    Job job = job(slot);
    if (job == null || job.running == 0) {
      return false;
    }
    job.running--;
    job.completed++;
    return true;
  }

  int getClock() {
    return clock;
  }

  int jobStat(int slot, int which) {
    Job job = job(slot);
    if (job == null || which < 0 || which > 8) {
      return -1;
    }
    if (which == 6) {
      return job.schedule.next(clock);
    }
    int[] stats = {
      job.running, job.started, job.completed, job.dropped, job.cancelled, job.misfires, 0, job.misfire, job.concurrency
    };
    return stats[which];
  }
}
