public final class CronEngine {
  public static final int NONE = -1;
  public static final int MAXT = 4206239;
  public static final int TEXT_CAP = 64;
  public static final int MAX_JOBS = 8;
  public static final int F_MINUTE = 0;
  public static final int F_HOUR = 1;
  public static final int F_DOM = 2;
  public static final int F_MONTH = 3;
  public static final int F_DOW = 4;
  public static final int T_YEAR = 0;
  public static final int T_MONTH = 1;
  public static final int T_DAY = 2;
  public static final int T_HOUR = 3;
  public static final int T_MINUTE = 4;
  public static final int T_DOW = 5;
  public static final int MIS_FIRE_ONCE = 0;
  public static final int MIS_SKIP = 1;
  public static final int MIS_FIRE_ALL = 2;
  public static final int CON_ALLOW = 0;
  public static final int CON_FORBID = 1;
  public static final int CON_REPLACE = 2;
  public static final int S_RUNNING = 0;
  public static final int S_STARTED = 1;
  public static final int S_COMPLETED = 2;
  public static final int S_DROPPED = 3;
  public static final int S_CANCELLED = 4;
  public static final int S_MISFIRES = 5;
  public static final int S_NEXT = 6;
  public static final int S_MISFIRE_POLICY = 7;
  public static final int S_CONCURRENCY_POLICY = 8;

  private static final int MOST_CAP = 8;
  private static final int REFUSED = -1;
  private static final int NO_VALUE = -1;

  private static final int FIRST_YEAR = 2096;
  private static final int LAST_YEAR = 2103;
  private static final int MONTHS = 96;
  private static final int FEBRUARY = 2;
  private static final int HOUR_MINUTES = 60;
  private static final int DAY_MINUTES = 1440;

  private static final int FIELDS = 5;
  // The staged schedule lies behind the job copies in the same arrays, so that one search serves both.
  private static final int STAGED = MAX_JOBS;
  private static final int SETS = (MAX_JOBS + 1) * FIELDS;
  private static final int GREATEST_VALUE = 59;

  // A name is looked up by its three capital letters packed into one int, since the program has no strings.
  private static final int JAN = 'J' << 16 | 'A' << 8 | 'N';
  private static final int FEB = 'F' << 16 | 'E' << 8 | 'B';
  private static final int MAR = 'M' << 16 | 'A' << 8 | 'R';
  private static final int APR = 'A' << 16 | 'P' << 8 | 'R';
  private static final int MAY = 'M' << 16 | 'A' << 8 | 'Y';
  private static final int JUN = 'J' << 16 | 'U' << 8 | 'N';
  private static final int JUL = 'J' << 16 | 'U' << 8 | 'L';
  private static final int AUG = 'A' << 16 | 'U' << 8 | 'G';
  private static final int SEP = 'S' << 16 | 'E' << 8 | 'P';
  private static final int OCT = 'O' << 16 | 'C' << 8 | 'T';
  private static final int NOV = 'N' << 16 | 'O' << 8 | 'V';
  private static final int DEC = 'D' << 16 | 'E' << 8 | 'C';
  private static final int SUN = 'S' << 16 | 'U' << 8 | 'N';
  private static final int MON = 'M' << 16 | 'O' << 8 | 'N';
  private static final int TUE = 'T' << 16 | 'U' << 8 | 'E';
  private static final int WED = 'W' << 16 | 'E' << 8 | 'D';
  private static final int THU = 'T' << 16 | 'H' << 8 | 'U';
  private static final int FRI = 'F' << 16 | 'R' << 8 | 'I';
  private static final int SAT = 'S' << 16 | 'A' << 8 | 'T';

  private final int cap;
  private int clock = 0;

  private final int[] text = new int[TEXT_CAP];
  private int length = 0;

  // What lies in the staged place counts only while this holds: a rejected text leaves half a schedule there.
  private boolean staged = false;

  private final long[] sets = new long[SETS];
  private final boolean[] starred = new boolean[SETS];

  private final boolean[] occupied = new boolean[MAX_JOBS];
  private final int[] misfirePolicy = new int[MAX_JOBS];
  private final int[] concurrencyPolicy = new int[MAX_JOBS];
  private final int[] running = new int[MAX_JOBS];
  private final int[] started = new int[MAX_JOBS];
  private final int[] completed = new int[MAX_JOBS];
  private final int[] dropped = new int[MAX_JOBS];
  private final int[] cancelled = new int[MAX_JOBS];
  private final int[] misfires = new int[MAX_JOBS];

  public CronEngine(int cap) {
    this.cap = cap < 1 ? 1 : cap > MOST_CAP ? MOST_CAP : cap;
  }

  public void clearText() {
    length = 0;
  }

  public boolean putChar(int c) {
    if (c < 32 || c > 126 || length >= TEXT_CAP) {
      return false;
    }
    text[length] = c;
    length++;
    return true;
  }

  public int textLength() {
    return length;
  }

  public boolean compile() {
    staged = parseText();
    length = 0;
    return staged;
  }

  public boolean fieldHas(int field, int v) {
    if (!staged || field < 0 || field >= FIELDS) {
      return false;
    }
    // Beyond this the shift inside setHas would wrap around and hit another value.
    if (v < 0 || v > GREATEST_VALUE) {
      return false;
    }
    return setHas(STAGED, field, v);
  }

  public boolean dayStarred(int field) {
    if (!staged || field != F_DOM && field != F_DOW) {
      return false;
    }
    return starred[STAGED * FIELDS + field];
  }

  public int nextFire(int t) {
    if (!staged || t < 0 || t > MAXT) {
      return NONE;
    }
    return nextMatch(STAGED, t, MAXT);
  }

  public int makeTime(int year, int month, int day, int minuteOfDay) {
    if (year < FIRST_YEAR || year > LAST_YEAR || month < 1 || month > 12) {
      return NONE;
    }
    int wanted = (year - FIRST_YEAR) * 12 + month - 1;
    int days = monthDays(wanted);
    if (day < 1 || day > days || minuteOfDay < 0 || minuteOfDay >= DAY_MINUTES) {
      return NONE;
    }
    int daysBefore = 0;
    for (int i = 0; i < wanted; i++) {
      daysBefore += monthDays(i);
    }
    return (daysBefore + day - 1) * DAY_MINUTES + minuteOfDay;
  }

  public int timeField(int t, int which) {
    if (t < 0 || t > MAXT) {
      return REFUSED;
    }
    switch (which) {
      case T_YEAR:
      case T_MONTH:
      case T_DAY:
        return datePart(t / DAY_MINUTES, which);
      case T_HOUR:
        return hourOf(t);
      case T_MINUTE:
        return t % HOUR_MINUTES;
      case T_DOW:
        return t / DAY_MINUTES % 7;
      default:
        return REFUSED;
    }
  }

  public int addJob(int misfire, int concurrency) {
    if (!staged || misfire < MIS_FIRE_ONCE || misfire > MIS_FIRE_ALL) {
      return REFUSED;
    }
    if (concurrency < CON_ALLOW || concurrency > CON_REPLACE) {
      return REFUSED;
    }
    for (int slot = 0; slot < MAX_JOBS; slot++) {
      if (!occupied[slot]) {
        occupied[slot] = true;
        misfirePolicy[slot] = misfire;
        concurrencyPolicy[slot] = concurrency;
        clearCounters(slot);
        copyStagedTo(slot);
        return slot;
      }
    }
    return REFUSED;
  }

  public boolean removeJob(int slot) {
    if (!isJob(slot)) {
      return false;
    }
    occupied[slot] = false;
    return true;
  }

  public int advance(int n) {
    if (n < 1 || clock >= MAXT) {
      return REFUSED;
    }
    int before = clock;
    clock = n > MAXT - before ? MAXT : before + n;
    int total = 0;
    for (int slot = 0; slot < MAX_JOBS; slot++) {
      if (occupied[slot]) {
        countMisfire(slot, before);
        int triggers = triggersDue(slot, before);
        total += startRuns(slot, triggers);
      }
    }
    return total;
  }

  public boolean complete(int slot) {
    if (!isJob(slot) || running[slot] == 0) {
      return false;
    }
    running[slot]--;
    completed[slot]++;
    return true;
  }

  public int getClock() {
    return clock;
  }

  public int jobStat(int slot, int which) {
    if (!isJob(slot)) {
      return REFUSED;
    }
    switch (which) {
      case S_RUNNING:
        return running[slot];
      case S_STARTED:
        return started[slot];
      case S_COMPLETED:
        return completed[slot];
      case S_DROPPED:
        return dropped[slot];
      case S_CANCELLED:
        return cancelled[slot];
      case S_MISFIRES:
        return misfires[slot];
      case S_NEXT:
        return nextMatch(slot, clock, MAXT);
      case S_MISFIRE_POLICY:
        return misfirePolicy[slot];
      case S_CONCURRENCY_POLICY:
        return concurrencyPolicy[slot];
      default:
        return REFUSED;
    }
  }

  // ---- the text ----

  private boolean parseText() {
    int fields = 0;
    for (int i = 0; i < length; i++) {
      if (text[i] != ' ' && (i == 0 || text[i - 1] == ' ')) {
        if (fields == FIELDS) {
          return false;
        }
        int end = find(' ', i, length);
        if (!parseField(fields, i, end)) {
          return false;
        }
        fields++;
      }
    }
    return fields == FIELDS;
  }

  private boolean parseField(int field, int from, int to) {
    sets[STAGED * FIELDS + field] = 0L;
    starred[STAGED * FIELDS + field] = text[from] == '*';
    int start = from;
    for (int i = from; i <= to; i++) {
      if (i == to || text[i] == ',') {
        if (!parseItem(field, start, i)) {
          return false;
        }
        start = i + 1;
      }
    }
    return true;
  }

  private boolean parseItem(int field, int from, int to) {
    int slash = find('/', from, to);
    boolean stepped = slash < to;
    int step = stepped ? number(slash + 1, to) : 1;
    if (step < 1) {
      return false;
    }
    int low = lowest(field);
    int high = highest(field);
    if (slash - from == 1 && text[from] == '*') {
      addValues(field, low, high, step);
      return true;
    }
    int dash = find('-', from, slash);
    int a = atom(field, from, dash);
    int b = stepped ? high : a;
    if (dash < slash) {
      b = atom(field, dash + 1, slash);
    }
    if (a < low || b > high || a > b) {
      return false;
    }
    addValues(field, a, b, step);
    return true;
  }

  private int atom(int field, int from, int to) {
    if (to - from != 3) {
      return number(from, to);
    }
    int first = capital(text[from]);
    int second = capital(text[from + 1]);
    int third = capital(text[from + 2]);
    int name = first << 16 | second << 8 | third;
    if (field == F_MONTH) {
      return monthNamed(name);
    }
    return field == F_DOW ? weekdayNamed(name) : NO_VALUE;
  }

  private int number(int from, int to) {
    if (to - from < 1 || to - from > 2) {
      return NO_VALUE;
    }
    int value = 0;
    for (int i = from; i < to; i++) {
      if (text[i] < '0' || text[i] > '9') {
        return NO_VALUE;
      }
      value = value * 10 + text[i] - '0';
    }
    return value;
  }

  private int find(int c, int from, int to) {
    for (int i = from; i < to; i++) {
      if (text[i] == c) {
        return i;
      }
    }
    return to;
  }

  private static int capital(int c) {
    return c >= 'a' && c <= 'z' ? c - 'a' + 'A' : c;
  }

  private static int monthNamed(int name) {
    switch (name) {
      case JAN:
        return 1;
      case FEB:
        return 2;
      case MAR:
        return 3;
      case APR:
        return 4;
      case MAY:
        return 5;
      case JUN:
        return 6;
      case JUL:
        return 7;
      case AUG:
        return 8;
      case SEP:
        return 9;
      case OCT:
        return 10;
      case NOV:
        return 11;
      case DEC:
        return 12;
      default:
        return NO_VALUE;
    }
  }

  private static int weekdayNamed(int name) {
    switch (name) {
      case SUN:
        return 0;
      case MON:
        return 1;
      case TUE:
        return 2;
      case WED:
        return 3;
      case THU:
        return 4;
      case FRI:
        return 5;
      case SAT:
        return 6;
      default:
        return NO_VALUE;
    }
  }

  // ---- the field sets ----

  private static int lowest(int field) {
    return field == F_DOM || field == F_MONTH ? 1 : 0;
  }

  private static int highest(int field) {
    switch (field) {
      case F_MINUTE:
        return GREATEST_VALUE;
      case F_HOUR:
        return 23;
      case F_DOM:
        return 31;
      case F_MONTH:
        return 12;
      default:
        return 7;
    }
  }

  private void addValues(int field, int a, int b, int step) {
    int next = a;
    for (int v = a; v <= b; v++) {
      if (v == next) {
        int stored = field == F_DOW && v == 7 ? 0 : v;
        sets[STAGED * FIELDS + field] |= 1L << stored;
        next += step;
      }
    }
  }

  private boolean setHas(int schedule, int field, int v) {
    return (sets[schedule * FIELDS + field] >> v & 1L) != 0L;
  }

  // ---- the calendar ----

  // Months are numbered through the whole window, 0 being January of its first year.
  private static int monthDays(int monthIndex) {
    int year = FIRST_YEAR + monthIndex / 12;
    int month = monthIndex % 12 + 1;
    if (month == FEBRUARY) {
      return isLeap(year) ? 29 : 28;
    }
    return month == 4 || month == 6 || month == 9 || month == 11 ? 30 : 31;
  }

  private static boolean isLeap(int year) {
    return year % 4 == 0 && (year % 100 != 0 || year % 400 == 0);
  }

  private static int datePart(int dayIndex, int which) {
    int daysLeft = dayIndex;
    for (int i = 0; i < MONTHS; i++) {
      int days = monthDays(i);
      if (daysLeft < days) {
        if (which == T_YEAR) {
          return FIRST_YEAR + i / 12;
        }
        return which == T_MONTH ? i % 12 + 1 : daysLeft + 1;
      }
      daysLeft -= days;
    }
    return REFUSED;
  }

  private static int hourOf(int t) {
    return t % DAY_MINUTES / HOUR_MINUTES;
  }

  // ---- the search: the least match after t and not after last ----

  private int nextMatch(int schedule, int t, int last) {
    int firstDay = 0;
    for (int i = 0; i < MONTHS && firstDay * DAY_MINUTES <= last; i++) {
      int days = monthDays(i);
      if (setHas(schedule, F_MONTH, i % 12 + 1)) {
        int found = nextInMonth(schedule, firstDay, days, t, last);
        if (found != NONE) {
          return found;
        }
      }
      firstDay += days;
    }
    return NONE;
  }

  private int nextInMonth(int schedule, int firstDay, int days, int t, int last) {
    int searchDay = (t + 1) / DAY_MINUTES;
    int startDay = searchDay > firstDay ? searchDay : firstDay;
    for (int day = startDay; day < firstDay + days; day++) {
      if (dayMatches(schedule, day - firstDay + 1, day % 7)) {
        int found = nextInDay(schedule, day * DAY_MINUTES, t, last);
        if (found != NONE) {
          return found;
        }
      }
    }
    return NONE;
  }

  private boolean dayMatches(int schedule, int dayOfMonth, int dayOfWeek) {
    boolean inMonth = setHas(schedule, F_DOM, dayOfMonth);
    boolean inWeek = setHas(schedule, F_DOW, dayOfWeek);
    if (starred[schedule * FIELDS + F_DOM] || starred[schedule * FIELDS + F_DOW]) {
      return inMonth && inWeek;
    }
    return inMonth || inWeek;
  }

  private int nextInDay(int schedule, int dayStart, int t, int last) {
    int start = t + 1 > dayStart ? t + 1 : dayStart;
    for (int m = start; m < dayStart + DAY_MINUTES && m <= last; m++) {
      int hour = hourOf(m);
      if (setHas(schedule, F_HOUR, hour) && setHas(schedule, F_MINUTE, m % HOUR_MINUTES)) {
        return m;
      }
    }
    return NONE;
  }

  // ---- the jobs ----

  private boolean isJob(int slot) {
    return slot >= 0 && slot < MAX_JOBS && occupied[slot];
  }

  private void clearCounters(int slot) {
    running[slot] = 0;
    started[slot] = 0;
    completed[slot] = 0;
    dropped[slot] = 0;
    cancelled[slot] = 0;
    misfires[slot] = 0;
  }

  private void copyStagedTo(int slot) {
    for (int field = 0; field < FIELDS; field++) {
      sets[slot * FIELDS + field] = sets[STAGED * FIELDS + field];
      starred[slot * FIELDS + field] = starred[STAGED * FIELDS + field];
    }
  }

  private void countMisfire(int slot, int before) {
    // Only the new clock itself is on time: any earlier match was missed.
    if (nextMatch(slot, before, clock - 1) != NONE) {
      misfires[slot]++;
    }
  }

  private int triggersDue(int slot, int before) {
    int most = misfirePolicy[slot] == MIS_FIRE_ALL ? cap : 1;
    int after = misfirePolicy[slot] == MIS_SKIP ? clock - 1 : before;
    int due = 0;
    for (int i = 0; i < most; i++) {
      after = nextMatch(slot, after, clock);
      if (after == NONE) {
        return due;
      }
      due++;
    }
    return due;
  }

  private int startRuns(int slot, int triggers) {
    int startedBefore = started[slot];
    for (int i = 0; i < triggers; i++) {
      if (concurrencyPolicy[slot] == CON_FORBID && running[slot] > 0) {
        dropped[slot]++;
      } else {
        if (concurrencyPolicy[slot] == CON_REPLACE) {
          cancelled[slot] += running[slot];
          running[slot] = 0;
        }
        running[slot]++;
        started[slot]++;
      }
    }
    return started[slot] - startedBefore;
  }
}
