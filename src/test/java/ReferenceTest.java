import java.util.Random;

/** All promises together: long runs of chosen calls, each answer held against the reference. */
public final class ReferenceTest {
  private static final String[] NAMES = {
    "JAN", "feb", "Mar", "APR", "may", "JUN", "JUL", "aug", "SEP", "OCT", "nov", "DEC",
    "SUN", "mon", "TUE", "Wed", "THU", "FRI", "sAt"
  };
  private static final int[] LOW = {0, 0, 1, 1, 0};
  private static final int[] HIGH = {59, 23, 31, 12, 7};
  private static final String ODD_CHARS = "0123456789*,-/ ,-/*AJNSUMFabndt?LW#~";

  private final Random random;
  private final CronEngine x;
  private final Reference reference;
  private final String run;

  private ReferenceTest(int seed) {
    // A fixed seed: the same calls in every run of the test.
    random = new Random(seed);
    int cap = pick(-3, 12);
    x = new CronEngine(cap);
    reference = new Reference(cap);
    run = "run " + seed + ": ";
  }

  public static void main(String[] args) {
    for (int seed = 0; seed < 400; seed++) {
      new ReferenceTest(seed).go();
    }
    Checks.end();
  }

  private void go() {
    for (int i = 0; i < 150; i++) {
      call();
      compareCheaply();
    }
    compareStaged();
    compareNextTimes();
  }

  private int pick(int from, int to) {
    return from + random.nextInt(to - from + 1);
  }

  private boolean chance(int percent) {
    return random.nextInt(100) < percent;
  }

  private void call() {
    switch (pick(0, 13)) {
      case 0, 1, 2 -> compileText();
      case 3, 4 -> addJob();
      case 5, 6, 7, 8 -> advance();
      case 9, 10 -> {
        int slot = pick(-1, 8);
        Checks.due(run + "complete(" + slot + ")", x.complete(slot), reference.complete(slot));
      }
      case 11 -> {
        int slot = pick(-1, 8);
        Checks.due(run + "removeJob(" + slot + ")", x.removeJob(slot), reference.removeJob(slot));
      }
      case 12 -> {
        int t = chance(10) ? pick(-5, 5) : chance(10) ? CronEngine.MAXT + pick(-5, 5) : pick(0, CronEngine.MAXT);
        Checks.due(run + "nextFire(" + t + ")", x.nextFire(t), reference.nextFire(t));
      }
      default -> {
        if (chance(50)) {
          x.clearText();
          reference.clearText();
        } else {
          type(" " + ODD_CHARS.charAt(pick(0, ODD_CHARS.length() - 1)));
        }
      }
    }
  }

  private void addJob() {
    int misfire = chance(5) ? pick(-1, 3) : pick(0, 2);
    int concurrency = chance(5) ? pick(-1, 3) : pick(0, 2);
    Checks.due(run + "addJob(" + misfire + ", " + concurrency + ")",
        x.addJob(misfire, concurrency), reference.addJob(misfire, concurrency));
  }

  private void advance() {
    int[] reach = {1, 5, 60, 61, 1440, 1441, 10000, 50000};
    int n = chance(3) ? pick(-2, 0) : pick(1, reach[pick(0, reach.length - 1)]);
    if (chance(25)) {
      n = toAFireTime();
    }
    if (chance(1)) {
      n = chance(50) ? Integer.MAX_VALUE : CronEngine.MAXT - x.getClock();
    }
    Checks.due(run + "advance(" + n + ")", x.advance(n), reference.advance(n));
  }

  private int toAFireTime() {
    int next = reference.jobStat(pick(0, 7), CronEngine.S_NEXT);
    return next == -1 ? 1 : Math.max(1, next - reference.getClock() + pick(-1, 1));
  }

  private void compileText() {
    String text = text();
    type(text);
    Checks.due(run + "compile() of '" + text + "'", x.compile(), reference.compile());
    compareStaged();
    int t = pick(0, CronEngine.MAXT);
    Checks.due(run + "'" + text + "': nextFire(" + t + ")", x.nextFire(t), reference.nextFire(t));
  }

  private void type(String text) {
    for (char c : text.toCharArray()) {
      Checks.due(run + "putChar(" + (int) c + ")", x.putChar(c), reference.putChar(c));
    }
  }

  private String text() {
    StringBuilder text = new StringBuilder(chance(20) ? "  " : "");
    int fields = chance(3) ? pick(4, 6) : 5;
    for (int field = 0; field < fields; field++) {
      text.append(field == 0 ? "" : chance(10) ? "   " : " ").append(field(Math.min(field, 4)));
    }
    text.append(chance(20) ? "  " : "");
    int faults = chance(25) ? pick(1, 2) : 0;
    for (int i = 0; i < faults; i++) {
      damage(text);
    }
    return text.toString();
  }

  private void damage(StringBuilder text) {
    int at = pick(0, text.length() - 1);
    char c = ODD_CHARS.charAt(pick(0, ODD_CHARS.length() - 1));
    switch (pick(0, 2)) {
      case 0 -> text.setCharAt(at, c);
      case 1 -> text.insert(at, c);
      default -> text.deleteCharAt(at);
    }
  }

  private String field(int field) {
    StringBuilder list = new StringBuilder();
    int items = chance(70) ? 1 : pick(2, 3);
    for (int i = 0; i < items; i++) {
      list.append(i == 0 ? "" : ",").append(item(field));
    }
    return list.toString();
  }

  private String item(int field) {
    String step = chance(30) ? "/" + (chance(2) ? 0 : pick(1, 15)) : "";
    if (chance(40)) {
      return "*" + step;
    }
    int a = pick(LOW[field], HIGH[field]);
    if (chance(2)) {
      a = pick(0, 70);
    }
    if (chance(40)) {
      int b = chance(3) ? pick(0, 70) : pick(Math.min(a, HIGH[field]), HIGH[field]);
      return atom(field, a) + "-" + atom(field, b) + step;
    }
    return atom(field, a) + step;
  }

  private String atom(int field, int v) {
    if (chance(1)) {
      return NAMES[pick(0, NAMES.length - 1)];
    }
    if (field == 3 && v >= 1 && v <= 12 && chance(40)) {
      return NAMES[v - 1];
    }
    if (field == 4 && v <= 6 && chance(40)) {
      return NAMES[12 + v];
    }
    return v < 10 && chance(20) ? "0" + v : "" + v;
  }

  private void compareCheaply() {
    Checks.due(run + "getClock()", x.getClock(), reference.getClock());
    Checks.due(run + "textLength()", x.textLength(), reference.textLength());
    for (int slot = -1; slot <= 8; slot++) {
      for (int which = -1; which <= 9; which++) {
        if (which != CronEngine.S_NEXT) {
          Checks.due(run + "jobStat(" + slot + ", " + which + ")",
              x.jobStat(slot, which), reference.jobStat(slot, which));
        }
      }
    }
    if (chance(5)) {
      compareStaged();
      compareNextTimes();
    }
  }

  private void compareStaged() {
    for (int field = -1; field <= 5; field++) {
      Checks.due(run + "dayStarred(" + field + ")", x.dayStarred(field), reference.dayStarred(field));
      for (int v = -2; v <= 66; v++) {
        Checks.due(run + "fieldHas(" + field + ", " + v + ")", x.fieldHas(field, v), reference.fieldHas(field, v));
      }
    }
  }

  private void compareNextTimes() {
    for (int slot = 0; slot < 8; slot++) {
      Checks.due(run + "jobStat(" + slot + ", 6)", x.jobStat(slot, 6), reference.jobStat(slot, 6));
    }
  }
}
