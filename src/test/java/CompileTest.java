/** Promises 5 to 7: compile, fieldHas, dayStarred. */
public final class CompileTest {
  private static final int[] LOW = Texts.LOW;
  private static final int[] HIGH = Texts.HIGH;
  private static final String[] MONTHS = Texts.MONTHS;
  private static final String[] WEEKDAYS = Texts.WEEKDAYS;

  public static void main(String[] args) {
    checkSpacesAndFieldCount();
    checkSingleValues();
    checkRanges();
    checkSteps();
    checkLists();
    checkNames();
    checkWrongNames();
    checkNotDerivable();
    checkStarred();
    checkOutcome();
    checkOtherStateStays();
    checkWrongArguments();
    Checks.end();
  }

  private static void checkSpacesAndFieldCount() {
    String[] rejected = {
      "", " ", "     ", "*", "* *", "* * *", "* * * *", "* * * * * *", "* * * * * * *", "*****",
      "1 2 3 4", " 1 2 3 4 ", "1 2 3 4 5 6", "1 2 3 4 5 ,", "* * * * * x", "12345", "1,2,3,4,5"
    };
    for (String text : rejected) {
      Texts.rejectsText(text);
    }
    String[] accepted = {
      "1 2 3 4 5", " 1 2 3 4 5", "1 2 3 4 5 ", "   1  2   3    4     5   ", "01 02 03 04 05",
      " ".repeat(55) + "1 2 3 4 5", "1 2 3 4 5" + " ".repeat(55), "1 2" + " ".repeat(56) + "3 4 5"
    };
    for (String text : accepted) {
      Texts.stages(text, "[1][2][3][4][5]");
    }
  }

  private static void checkSingleValues() {
    for (int field = 0; field < 5; field++) {
      Texts.gives(field, "*", Checks.range(LOW[field], field == 4 ? 6 : HIGH[field], 1));
      for (int v = 0; v <= 99; v++) {
        String stored = String.valueOf(field == 4 && v == 7 ? 0 : v);
        String[] writings = v < 10 ? new String[] {"" + v, "0" + v} : new String[] {"" + v};
        for (String writing : writings) {
          if (v >= LOW[field] && v <= HIGH[field]) {
            Texts.gives(field, writing, stored);
          } else {
            Texts.rejects(field, writing);
            Texts.rejects(field, writing + "/1");
            Texts.rejects(field, writing + "-" + HIGH[field]);
            Texts.rejects(field, LOW[field] + "-" + writing);
            Texts.rejects(field, LOW[field] + "," + writing);
          }
        }
      }
    }
  }

  private static void checkRanges() {
    for (int field = 0; field < 4; field++) {
      for (int a = LOW[field]; a <= HIGH[field]; a++) {
        Texts.gives(field, a + "-" + HIGH[field], Checks.range(a, HIGH[field], 1));
        Texts.gives(field, LOW[field] + "-" + a, Checks.range(LOW[field], a, 1));
        Texts.gives(field, a + "-" + a, "" + a);
        if (a > LOW[field]) {
          Texts.rejects(field, a + "-" + (a - 1));
          Texts.rejects(field, a + "-" + (a - 1) + "/5");
        }
      }
    }
    Texts.gives(4, "0-6", "0 1 2 3 4 5 6");
    Texts.gives(4, "0-7", "0 1 2 3 4 5 6");
    Texts.gives(4, "5-7", "0 5 6");
    Texts.gives(4, "7-7", "0");
    Texts.gives(4, "0-0", "0");
    Texts.gives(4, "0-07", "0 1 2 3 4 5 6");
    Texts.rejects(4, "7-0");
    Texts.rejects(4, "7-1");
    Texts.rejects(4, "7-6");
    Texts.rejects(4, "7-SAT");
    Texts.rejects(4, "SAT-SUN");
    Texts.gives(4, "SUN-7", "0 1 2 3 4 5 6");
    Texts.rejects(0, "10-9");
    Texts.rejects(0, "9-08");
    Texts.gives(0, "9-10", "9 10");
  }

  private static void checkSteps() {
    for (int field = 0; field < 4; field++) {
      for (int step = 1; step <= 99; step++) {
        Texts.gives(field, "*/" + step, Checks.range(LOW[field], HIGH[field], step));
        Texts.gives(field, "5/" + step, Checks.range(5, HIGH[field], step));
        Texts.gives(field, "2-11/" + step, Checks.range(2, 11, step));
      }
      Texts.gives(field, HIGH[field] + "/1", "" + HIGH[field]);
      Texts.gives(field, "*/01", Checks.range(LOW[field], HIGH[field], 1));
      Texts.gives(field, "*/05", Checks.range(LOW[field], HIGH[field], 5));
      for (String step : new String[] {"0", "00", "", "000", "001", "100", "-1", "+1", "*", "x", "1x", "MAR", "SUN"}) {
        Texts.rejects(field, "*/" + step);
        Texts.rejects(field, "5/" + step);
        Texts.rejects(field, "2-11/" + step);
      }
    }
    Texts.gives(4, "*/2", "0 2 4 6");
    Texts.gives(4, "*/3", "0 3 6");
    Texts.gives(4, "*/7", "0");
    Texts.gives(4, "*/8", "0");
    Texts.gives(4, "*/99", "0");
    Texts.gives(4, "1/2", "0 1 3 5");
    Texts.gives(4, "1/3", "0 1 4");
    Texts.gives(4, "1-6/2", "1 3 5");
    Texts.gives(4, "1-7/2", "0 1 3 5");
    Texts.gives(4, "2-7/5", "0 2");
    Texts.gives(4, "6/1", "0 6");
    Texts.gives(4, "7/1", "0");
    Texts.gives(4, "7/2", "0");
    Texts.gives(4, "0/4", "0 4");
    Texts.gives(4, "MON/3", "0 1 4");
    Texts.gives(3, "feb/5", "2 7 12");
    Texts.gives(3, "FEB-NOV/3", "2 5 8 11");
    Texts.rejects(4, "*/0");
    Texts.rejects(4, "1/00");
    Texts.rejects(3, "*/MAR");
    Texts.rejects(4, "*/MON");
  }

  private static void checkLists() {
    Texts.gives(0, "5,3,59,0", "0 3 5 59");
    Texts.gives(0, "5,5,5", "5");
    Texts.gives(0, "*,5", Checks.range(0, 59, 1));
    Texts.gives(0, "5,*", Checks.range(0, 59, 1));
    Texts.gives(0, "1-3,2-5,50/4", "1 2 3 4 5 50 54 58");
    Texts.gives(1, "*/10,1", "0 1 10 20");
    Texts.gives(1, "23/5,0,4-6/2", "0 4 6 23");
    Texts.gives(2, "31,1,15-17", "1 15 16 17 31");
    Texts.gives(3, "JAN,3,nov-DEC", "1 3 11 12");
    Texts.gives(4, "0,7", "0");
    Texts.gives(4, "FRI,7,1", "0 1 5");
    Texts.gives(4, "2-3,WED-7/2,mon", "0 1 2 3 5");
    // With the other fields this fills the text to its last character.
    Texts.gives(0, "9," + Checks.range(0, 20, 1).replace(' ', ',') + ",9", Checks.range(0, 20, 1));
    for (int field = 0; field < 5; field++) {
      for (String list : new String[] {",", ",1", "1,", "1,,2", ",,", "*,", ",*", "1,2,", "1,2,,3", "1;2"}) {
        Texts.rejects(field, list);
      }
      Texts.rejects(field, "1,61");
      Texts.rejects(field, "61,1");
      Texts.rejects(field, "1,3-2");
      Texts.rejects(field, "3-2,1");
      Texts.rejects(field, "1,*/0");
      Texts.rejects(field, "*/0,1");
      Texts.rejects(field, "1,x,2");
    }
  }

  private static void checkNames() {
    for (int i = 0; i < 12; i++) {
      for (String writing : writings(MONTHS[i])) {
        Texts.gives(3, writing, "" + (i + 1));
        Texts.gives(3, writing + "-12", Checks.range(i + 1, 12, 1));
        Texts.gives(3, "1-" + writing, Checks.range(1, i + 1, 1));
      }
      for (int field : new int[] {0, 1, 2, 4}) {
        Texts.rejects(field, MONTHS[i]);
      }
      Texts.rejects(3, MONTHS[i].substring(0, 2));
      Texts.rejects(3, MONTHS[i] + "A");
    }
    for (int i = 0; i < 7; i++) {
      for (String writing : writings(WEEKDAYS[i])) {
        Texts.gives(4, writing, "" + i);
        Texts.gives(4, writing + "-6", Checks.range(i, 6, 1));
        Texts.gives(4, "0-" + writing, Checks.range(0, i, 1));
      }
      for (int field = 0; field < 4; field++) {
        Texts.rejects(field, WEEKDAYS[i]);
      }
      Texts.rejects(4, WEEKDAYS[i].substring(0, 2));
      Texts.rejects(4, WEEKDAYS[i] + "DAY");
    }
    Texts.gives(3, "MAR-MAY", "3 4 5");
    Texts.rejects(3, "MAY-MAR");
    Texts.gives(4, "TUE-thu", "2 3 4");
    Texts.rejects(4, "THU-TUE");
  }

  private static String[] writings(String name) {
    String low = name.toLowerCase();
    return new String[] {
      name, low, name.charAt(0) + low.substring(1), low.charAt(0) + name.substring(1),
      low.substring(0, 2) + name.charAt(2), name.substring(0, 2) + low.charAt(2)
    };
  }

  /** Every name with one character changed to every other one is no name, but for a few that are. */
  private static void checkWrongNames() {
    for (int field = 3; field <= 4; field++) {
      String[] names = field == 3 ? MONTHS : WEEKDAYS;
      java.util.List<String> known = java.util.List.of(names);
      for (String name : names) {
        for (int i = 0; i < 3; i++) {
          for (char c = 33; c <= 126; c++) {
            String other = name.substring(0, i) + c + name.substring(i + 1);
            CronEngine x = new CronEngine(1);
            boolean due = known.contains(other.toUpperCase());
            Checks.due("compile with '" + other + "'", Checks.compiles(x, Texts.with(field, other)), due);
          }
        }
      }
    }
  }

  private static void checkNotDerivable() {
    String[] wrong = {
      "**", "*1", "1*", "*-5", "1-*", "*-*", "-", "-1", "1-", "--", "1--2", "1-2-3", "1-2-", "/", "/2", "1/",
      "*/", "*//2", "1/2/3", "*/2/3", "1/2-3", "*/2-3", "1-/2", "-/2", "?", "L", "1L", "1#2", "1.", "+1", "001",
      "100", "1a", "a1", "1ab", "11a", "a11", "1A1", "0x1", "1_", "(1)", "a", "ab", "abc", "abcd", "~", "!", "@daily",
      "1:2", "*,*/", "*x", "x*", "/1-2", "1-2/", "*-1/2", "1,-2", "1-,2", "1/,2", "1/2,/3"
    };
    for (String fieldText : wrong) {
      for (int field = 0; field < 5; field++) {
        Texts.rejects(field, fieldText);
      }
    }
    for (int c = 33; c <= 126; c++) {
      if (c != '*' && (c < '0' || c > '9')) {
        for (int field = 0; field < 5; field++) {
          Texts.rejects(field, "" + (char) c);
          Texts.rejects(field, "1" + (char) c);
          Texts.rejects(field, "1-2/" + (char) c);
        }
      }
    }
  }

  private static void checkStarred() {
    String[] starred = {"*", "*/2", "*/1", "*,1", "*/3,5-7", "*,*"};
    String[] plain = {"1", "1,*", "1-7", "1-7/2", "1/1", "5,*/2", "07"};
    for (String fieldText : starred) {
      starredIs("1 1 " + fieldText + " 1 1", true, false);
      starredIs("1 1 1 1 " + fieldText, false, true);
      starredIs("   1 1   " + fieldText + "   1   " + fieldText + "  ", true, true);
      starredIs(fieldText + " " + fieldText + " 1 " + fieldText + " 1", false, false);
    }
    for (String fieldText : plain) {
      starredIs("* * " + fieldText + " * " + fieldText, false, false);
      starredIs("* * * * " + fieldText, true, false);
      starredIs("* * " + fieldText + " * *", false, true);
    }
    starredIs("0 0 01 1 MON", false, false);
    starredIs("0 0 * 1 MON", true, false);
  }

  private static void starredIs(String text, boolean dom, boolean dow) {
    CronEngine x = Checks.withStaged(1, text);
    Checks.due("dayStarred(2) of '" + text + "'", x.dayStarred(2), dom);
    Checks.due("dayStarred(4) of '" + text + "'", x.dayStarred(4), dow);
    for (int field : new int[] {0, 1, 3, 5, 6, -1, Integer.MIN_VALUE, Integer.MAX_VALUE}) {
      Checks.due("dayStarred(" + field + ") of '" + text + "'", x.dayStarred(field), false);
    }
  }

  private static void checkOutcome() {
    CronEngine x = Checks.withStaged(1, "1 2 3 4 5");
    Checks.due("textLength() after an accepted text", x.textLength(), 0);
    Checks.due("the sets", Checks.staged(x), "[1][2][3][4][5]");
    Checks.due("compile of a second text", Checks.compiles(x, "6 7 *,8 9 0"), true);
    Checks.due("the replaced sets", Checks.staged(x), "[6][7][" + Checks.range(1, 31, 1) + "]*[9][0]");
    Checks.due("compile of a third text", Checks.compiles(x, "6 7 8 9 0"), true);
    Checks.due("the sets of the third", Checks.staged(x), "[6][7][8][9][0]");
    Checks.type(x, "1 1 1 1 8");
    Checks.due("compile of a rejected text", x.compile(), false);
    Checks.due("textLength() after a rejected text", x.textLength(), 0);
    Checks.due("the sets after a rejected text", Checks.staged(x), "[][][][][]");
    Checks.due("nextFire(0) after a rejected text", x.nextFire(0), CronEngine.NONE);
    Checks.due("addJob(0, 0) after a rejected text", x.addJob(0, 0), -1);
    Checks.due("compile of no text", x.compile(), false);
    Checks.due("compile after a rejected text", Checks.compiles(x, "3 3 3 3 3"), true);
    Checks.due("the sets after that", Checks.staged(x), "[3][3][3][3][3]");
    Checks.due("compile() of the empty text", x.compile(), false);
    Checks.due("the sets after the empty text", Checks.staged(x), "[][][][][]");
    Checks.compiles(x, "* * * * *");
    Checks.compiles(x, "     ");
    Checks.due("dayStarred(2) after a rejected text", x.dayStarred(2), false);
    Checks.due("dayStarred(4) after a rejected text", x.dayStarred(4), false);
  }

  private static void checkOtherStateStays() {
    CronEngine x = Checks.withStaged(3, "*/7 3 * * 1");
    x.addJob(2, 0);
    x.addJob(0, 1);
    x.advance(100000);
    String jobs = Checks.jobs(x);
    for (String text : new String[] {"* * * * *", "1 1 1 1 1", "x", "", "1 2 3 4 5 6", "0 0 *,5 2 3"}) {
      Checks.compiles(x, text);
      Checks.due("the jobs after compile of '" + text + "'", Checks.jobs(x), jobs);
      Checks.due("the clock after compile of '" + text + "'", x.getClock(), 100000);
    }
  }

  private static void checkWrongArguments() {
    CronEngine x = Checks.withStaged(1, "* * * * *");
    int[] fields = {-1, 5, 6, 8, 40, -5, Integer.MIN_VALUE, Integer.MAX_VALUE, 858993459, 858993460};
    for (int field : fields) {
      Checks.due("the set of field " + field, Checks.set(x, field), "");
    }
    for (int field = 0; field < 5; field++) {
      for (int v : Checks.FAR_INTS) {
        Checks.due("fieldHas(" + field + ", " + v + ")", x.fieldHas(field, v), false);
      }
    }
    Checks.due("fieldHas(F_DOW, 7)", x.fieldHas(CronEngine.F_DOW, 7), false);
    Checks.due("fieldHas(F_DOM, 0)", x.fieldHas(CronEngine.F_DOM, 0), false);
    Checks.due("fieldHas(F_MONTH, 0)", x.fieldHas(CronEngine.F_MONTH, 0), false);
    String before = Checks.state(x);
    Checks.type(x, "5 5");
    x.fieldHas(0, 5);
    x.dayStarred(2);
    x.nextFire(100);
    Checks.due("textLength() after questions", x.textLength(), 3);
    x.clearText();
    Checks.due("the state after questions", Checks.state(x), before);
  }
}
