import java.util.Random;

/** Calls on a twin as chance has them, but the same in every run of the tests, since the seed is given. */
final class RandomCalls {
  private static final String[] NAMES = {
    "JAN", "feb", "Mar", "APR", "may", "JUN", "JUL", "aug", "SEP", "OCT", "nov", "DEC",
    "SUN", "mon", "TUE", "Wed", "THU", "FRI", "sAt"
  };
  private static final String ODD_CHARS = "0123456789*,-/ ,-/*AJNSUMFabndt?LW#~";
  private static final int[] REACH = {1, 5, 60, 61, 1440, 1441, 10000, 50000};

  private final Random random;
  private final Twin twin;
  private final int longestStep;

  RandomCalls(int seed, Twin twin, int longestStep) {
    random = new Random(seed);
    this.twin = twin;
    this.longestStep = longestStep;
  }

  int pick(int from, int to) {
    return from + random.nextInt(to - from + 1);
  }

  boolean chance(int percent) {
    return random.nextInt(100) < percent;
  }

  void call() {
    switch (pick(0, 13)) {
      case 0, 1, 2 -> compileText();
      case 3, 4 -> addJob();
      case 5, 6, 7, 8 -> advance();
      case 9, 10 -> twin.complete(pick(-1, 8));
      case 11 -> twin.removeJob(pick(-1, 8));
      case 12 -> twin.nextFire(time());
      default -> {
        if (chance(50)) {
          twin.clearText();
        } else {
          twin.type(" " + oddChar());
        }
      }
    }
  }

  private int time() {
    return chance(10) ? pick(-5, 5) : chance(10) ? CronEngine.MAXT + pick(-5, 5) : pick(0, CronEngine.MAXT);
  }

  void addJob() {
    int misfire = chance(5) ? pick(-1, 3) : pick(0, 2);
    int concurrency = chance(5) ? pick(-1, 3) : pick(0, 2);
    twin.addJob(misfire, concurrency);
  }

  private void advance() {
    int n = chance(3) ? pick(-2, 0) : pick(1, REACH[pick(0, REACH.length - 1)]);
    twin.advance(Math.min(longestStep, chance(25) ? toAFireTime() : n));
  }

  private int toAFireTime() {
    int next = twin.jobStat(pick(0, 7), CronEngine.S_NEXT);
    return next == -1 ? 1 : Math.max(1, next - twin.getClock() + pick(-1, 1));
  }

  void compileText() {
    twin.type(text());
    twin.compile();
    twin.stagedLooksSame();
    twin.nextFire(time());
  }

  private String text() {
    StringBuilder text = new StringBuilder(chance(20) ? "  " : "");
    int fields = chance(3) ? pick(4, 6) : 5;
    for (int field = 0; field < fields; field++) {
      text.append(field == 0 ? "" : chance(10) ? "   " : " ").append(field(Math.min(field, 4)));
    }
    text.append(chance(20) ? "  " : "");
    int faults = chance(25) ? pick(1, 2) : 0;
    for (int i = 0; i < faults; i++) {
      damage(text);
    }
    return text.toString();
  }

  private char oddChar() {
    return ODD_CHARS.charAt(pick(0, ODD_CHARS.length() - 1));
  }

  private void damage(StringBuilder text) {
    int at = pick(0, text.length() - 1);
    switch (pick(0, 2)) {
      case 0 -> text.setCharAt(at, oddChar());
      case 1 -> text.insert(at, oddChar());
      default -> text.deleteCharAt(at);
    }
  }

  private String field(int field) {
    StringBuilder list = new StringBuilder();
    int items = chance(70) ? 1 : pick(2, 3);
    for (int i = 0; i < items; i++) {
      list.append(i == 0 ? "" : ",").append(item(field));
    }
    return list.toString();
  }

  private String item(int field) {
    String step = chance(30) ? "/" + (chance(2) ? 0 : pick(1, 15)) : "";
    if (chance(40)) {
      return "*" + step;
    }
    int a = chance(2) ? pick(0, 70) : pick(Texts.LOW[field], Texts.HIGH[field]);
    if (chance(40)) {
      int b = chance(3) ? pick(0, 70) : pick(Math.min(a, Texts.HIGH[field]), Texts.HIGH[field]);
      return atom(field, a) + "-" + atom(field, b) + step;
    }
    return atom(field, a) + step;
  }

  private String atom(int field, int v) {
    if (chance(1)) {
      return NAMES[pick(0, NAMES.length - 1)];
    }
    if (field == CronEngine.F_MONTH && v >= 1 && v <= 12 && chance(40)) {
      return NAMES[v - 1];
    }
    if (field == CronEngine.F_DOW && v <= 6 && chance(40)) {
      return NAMES[12 + v];
    }
    return v < 10 && chance(20) ? "0" + v : "" + v;
  }
}
