/** Schedules with one field of interest, and what compile makes of them. */
final class Texts {
  static final int[] LOW = {0, 0, 1, 1, 0};
  static final int[] HIGH = {59, 23, 31, 12, 7};
  static final String[] MONTHS = {
    "JAN", "FEB", "MAR", "APR", "MAY", "JUN", "JUL", "AUG", "SEP", "OCT", "NOV", "DEC"
  };
  static final String[] WEEKDAYS = {"SUN", "MON", "TUE", "WED", "THU", "FRI", "SAT"};
  /** Its last character is the 64th, and the fifth field. */
  static final String FULL = "1 2 3 4" + " ".repeat(56) + "5";

  private Texts() {}

  static String with(int field, String fieldText) {
    String[] parts = {"*", "*", "*", "*", "*"};
    parts[field] = fieldText;
    return String.join(" ", parts);
  }

  static void gives(int field, String fieldText, String values) {
    String text = with(field, fieldText);
    CronEngine x = Checks.withStaged(1, text);
    Checks.due("the set of field " + field + " of '" + text + "'", Checks.set(x, field), values);
  }

  static void stages(String text, String sets) {
    CronEngine x = Checks.withStaged(1, text);
    Checks.due("the sets of '" + text + "'", Checks.staged(x), sets);
  }

  static void rejects(int field, String... fieldTexts) {
    for (String fieldText : fieldTexts) {
      rejectsText(with(field, fieldText));
    }
  }

  static void rejectsInEveryField(String... fieldTexts) {
    for (int field = 0; field < 5; field++) {
      rejects(field, fieldTexts);
    }
  }

  static void rejectsText(String text) {
    CronEngine x = Checks.withStaged(1, "* * * * *");
    Checks.due("compile of '" + text + "'", Checks.compiles(x, text), false);
    Checks.due("the sets after '" + text + "'", Checks.staged(x), "[][][][][]");
    Checks.due("textLength() after '" + text + "'", x.textLength(), 0);
  }

  /** All that no staged schedule means for the calls that ask for one. */
  static void nothingStaged(CronEngine x) {
    Checks.due("the sets", Checks.staged(x), "[][][][][]");
    Checks.due("nextFire(0)", x.nextFire(0), CronEngine.NONE);
    Checks.due("addJob(0, 0)", x.addJob(0, 0), -1);
  }
}
