import java.lang.reflect.Array;
import java.lang.reflect.Field;
import java.lang.reflect.Modifier;

/** An object and the reference beside it: both get the same calls, and the one's answers are due from the other. */
final class Twin {
  private static final int MAXT = CronEngine.MAXT;

  private final String name;
  private final CronEngine x;
  private final Reference reference;

  Twin(String name, int cap) {
    this(name, new CronEngine(cap), new Reference(cap));
  }

  private Twin(String name, CronEngine x, Reference reference) {
    this.name = name;
    this.x = x;
    this.reference = reference;
  }

  Twin copy() {
    return new Twin(name, copyOf(x), reference.copy());
  }

  /** LANGUAGE.md leaves an object numbers and arrays of numbers alone, so its fields can be copied one by one. */
  private static CronEngine copyOf(CronEngine original) {
    CronEngine copy = new CronEngine(1);
    try {
      for (Field field : CronEngine.class.getDeclaredFields()) {
        if (!Modifier.isStatic(field.getModifiers())) {
          field.setAccessible(true);
          copyField(field, original, copy);
        }
      }
    } catch (IllegalAccessException fault) {
      throw new IllegalStateException(fault);
    }
    return copy;
  }

  private static void copyField(Field field, CronEngine from, CronEngine to) throws IllegalAccessException {
    Object value = field.get(from);
    if (value.getClass().isArray()) {
      System.arraycopy(value, 0, field.get(to), 0, Array.getLength(value));
    } else {
      field.set(to, value);
    }
  }

  private <T> T due(String call, T got, T want) {
    Checks.due(name + call, got, want);
    return want;
  }

  // ---- the calls of the face ----

  void clearText() {
    x.clearText();
    reference.clearText();
  }

  boolean putChar(int c) {
    return due("putChar(" + c + ")", x.putChar(c), reference.putChar(c));
  }

  int textLength() {
    return due("textLength()", x.textLength(), reference.textLength());
  }

  boolean compile() {
    return due("compile()", x.compile(), reference.compile());
  }

  boolean fieldHas(int field, int v) {
    return due("fieldHas(" + field + ", " + v + ")", x.fieldHas(field, v), reference.fieldHas(field, v));
  }

  boolean dayStarred(int field) {
    return due("dayStarred(" + field + ")", x.dayStarred(field), reference.dayStarred(field));
  }

  int nextFire(int t) {
    return due("nextFire(" + t + ")", x.nextFire(t), reference.nextFire(t));
  }

  int makeTime(int year, int month, int day, int minuteOfDay) {
    return due("makeTime(" + year + ", " + month + ", " + day + ", " + minuteOfDay + ")",
        x.makeTime(year, month, day, minuteOfDay), reference.makeTime(year, month, day, minuteOfDay));
  }

  int timeField(int t, int which) {
    return due("timeField(" + t + ", " + which + ")", x.timeField(t, which), reference.timeField(t, which));
  }

  int addJob(int misfire, int concurrency) {
    return due("addJob(" + misfire + ", " + concurrency + ")",
        x.addJob(misfire, concurrency), reference.addJob(misfire, concurrency));
  }

  boolean removeJob(int slot) {
    return due("removeJob(" + slot + ")", x.removeJob(slot), reference.removeJob(slot));
  }

  int advance(int n) {
    return due("advance(" + n + ") at " + reference.getClock(), x.advance(n), reference.advance(n));
  }

  boolean complete(int slot) {
    return due("complete(" + slot + ")", x.complete(slot), reference.complete(slot));
  }

  int getClock() {
    return due("getClock()", x.getClock(), reference.getClock());
  }

  int jobStat(int slot, int which) {
    return due("jobStat(" + slot + ", " + which + ")", x.jobStat(slot, which), reference.jobStat(slot, which));
  }

  // ---- several calls in a row ----

  void type(String text) {
    for (char c : text.toCharArray()) {
      putChar(c);
    }
  }

  boolean compiles(String text) {
    clearText();
    type(text);
    return compile();
  }

  boolean isJob(int slot) {
    return textOf(slot) != null;
  }

  String textOf(int slot) {
    return reference.textOf(slot);
  }

  int jobs() {
    int jobs = 0;
    for (int slot = 0; slot < CronEngine.MAX_JOBS; slot++) {
      jobs += isJob(slot) ? 1 : 0;
    }
    return jobs;
  }

  // ---- all that can be seen ----

  /** Words are put together for a wrong answer alone, since these calls are many. */
  private void seen(String call, int a, int b, int got, int want) {
    if (got != want) {
      due(call + "(" + a + ", " + b + ")", got, want);
    }
  }

  void looksSame() {
    textLength();
    getClock();
    stagedLooksSame();
    jobsLookSame();
  }

  void stagedLooksSame() {
    for (int field = -1; field <= 5; field++) {
      dayStarred(field);
      for (int v = -2; v <= 66; v++) {
        seen("fieldHas", field, v, x.fieldHas(field, v) ? 1 : 0, reference.fieldHas(field, v) ? 1 : 0);
      }
    }
    nextFire(getClock());
  }

  void jobsLookSame() {
    for (int slot = -1; slot <= CronEngine.MAX_JOBS; slot++) {
      for (int which = -1; which <= 9; which++) {
        seen("jobStat", slot, which, x.jobStat(slot, which), reference.jobStat(slot, which));
      }
    }
  }

  /** Also what only later calls bring to light: the text, the copies that jobs hold and the cap. */
  void staysSame() {
    looksSame();
    Twin typed = copy();
    typed.type(" 5");
    typed.compile();
    typed.stagedLooksSame();
    Twin added = copy();
    added.removeJob(5);
    added.addJob(CronEngine.MIS_FIRE_ALL, CronEngine.CON_ALLOW);
    added.advance(30000);
    added.jobsLookSame();
    Twin later = copy();
    for (int n : new int[] {1, 1440, 44640, MAXT}) {
      later.advance(n);
      later.complete(n % CronEngine.MAX_JOBS);
      later.jobsLookSame();
    }
  }
}
