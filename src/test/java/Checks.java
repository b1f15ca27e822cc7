import java.time.LocalDateTime;
import java.time.temporal.ChronoUnit;

/** What the tests share: comparing answers, typing texts and looking at a whole object. */
final class Checks {
  static final LocalDateTime START = LocalDateTime.of(2096, 1, 1, 0, 0);
  static final int[] FAR_INTS = {
    Integer.MIN_VALUE, Integer.MIN_VALUE + 1, -65, -64, -9, -8, -2, -1,
    64, 65, 128, 256, 65536, Integer.MAX_VALUE - 1, Integer.MAX_VALUE
  };
  static final String EMPTY_SLOT = "-1 -1 -1 -1 -1 -1 -1 -1 -1";
  private static int asked = 0;
  private static int wrong = 0;
  private static int sentences = 0;
  private static String heading = "";
  private static String place = "";

  private Checks() {}

  static void due(String call, Object got, Object want) {
    asked++;
    if (!got.equals(want)) {
      wrong++;
      System.out.println(place + call + " answered " + got + ", due is " + want);
    }
  }

  static void end() {
    if (wrong != 0) {
      System.out.println(wrong + " answers are not as due");
      System.exit(1);
    }
    if (sentences != 0) {
      System.out.println(sentences + " sentences hold");
    }
  }

  /** The heading of the document under which the sentences that follow stand. */
  static void under(String words) {
    heading = words;
  }

  /** A test of its own for one sentence of the document, which is quoted in the document's words. */
  static void sentence(String words, Runnable test) {
    int askedBefore = asked;
    place = heading + ", '" + words + "': ";
    sentences++;
    try {
      test.run();
    } catch (RuntimeException fault) {
      due("a call", fault, "no exception");
    }
    due("a test that asks something", asked > askedBefore, true);
    place = "";
  }

  static int at(int year, int month, int day, int hour, int minute) {
    return (int) ChronoUnit.MINUTES.between(START, LocalDateTime.of(year, month, day, hour, minute));
  }

  static void type(CronEngine x, String text) {
    for (char c : text.toCharArray()) {
      x.putChar(c);
    }
  }

  static boolean compiles(CronEngine x, String text) {
    x.clearText();
    type(x, text);
    return x.compile();
  }

  static CronEngine withStaged(int cap, String text) {
    CronEngine x = new CronEngine(cap);
    due("compile of '" + text + "'", compiles(x, text), true);
    return x;
  }

  /** The values that fieldHas affirms, among all that could be taken for valid ones. */
  static String set(CronEngine x, int field) {
    StringBuilder values = new StringBuilder();
    for (int v = -130; v <= 260; v++) {
      if (x.fieldHas(field, v)) {
        values.append(values.length() == 0 ? "" : " ").append(v);
      }
    }
    return values.toString();
  }

  static String range(int from, int to, int step) {
    StringBuilder values = new StringBuilder();
    for (int v = from; v <= to; v += step) {
      values.append(values.length() == 0 ? "" : " ").append(v);
    }
    return values.toString();
  }

  static String staged(CronEngine x) {
    StringBuilder all = new StringBuilder();
    for (int field = 0; field < 5; field++) {
      all.append('[').append(set(x, field)).append(x.dayStarred(field) ? "]*" : "]");
    }
    return all.toString();
  }

  static String job(CronEngine x, int slot) {
    StringBuilder all = new StringBuilder();
    for (int which = 0; which <= 8; which++) {
      all.append(which == 0 ? "" : " ").append(x.jobStat(slot, which));
    }
    return all.toString();
  }

  static String jobs(CronEngine x) {
    StringBuilder all = new StringBuilder();
    for (int slot = 0; slot < CronEngine.MAX_JOBS; slot++) {
      all.append('(').append(job(x, slot)).append(')');
    }
    return all.toString();
  }

  /** All that can be seen of an object without a change to it. */
  static String state(CronEngine x) {
    return x.getClock() + " " + x.textLength() + " " + staged(x) + jobs(x);
  }
}
