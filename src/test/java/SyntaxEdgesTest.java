/** The boundary cases that Syntax and Meaning name, sentence by sentence. */
public final class SyntaxEdgesTest {
  private static final int MINUTE = CronEngine.F_MINUTE;
  private static final int HOUR = CronEngine.F_HOUR;
  private static final int DOM = CronEngine.F_DOM;
  private static final int MONTH = CronEngine.F_MONTH;
  private static final int DOW = CronEngine.F_DOW;
  private static final String ALL_WEEK = "0 1 2 3 4 5 6";

  public static void main(String[] args) {
    sentencesOnFields();
    sentencesOnTheGrammar();
    sentencesOnValues();
    sentencesOnRejection();
    sentencesOnMeaning();
    Checks.end();
  }

  private static void sentencesOnFields() {
    Checks.under("Syntax");
    Checks.sentence("A field is a maximal run of characters other than the space (code 32).",
        SyntaxEdgesTest::onlySpacesPart);
    Checks.sentence("Any number of spaces may stand before, between and after fields.",
        SyntaxEdgesTest::anyNumberOfSpaces);
    Checks.sentence("There must be exactly 5 fields", SyntaxEdgesTest::exactlyFive);
    Checks.sentence("in this order: minute, hour, day of month, month, day of week", SyntaxEdgesTest::fieldOrder);
  }

  private static void sentencesOnTheGrammar() {
    Checks.under("Syntax");
    Checks.sentence("field := item { ',' item }", SyntaxEdgesTest::itemsAndCommas);
    Checks.sentence("item  := base [ '/' step ]", SyntaxEdgesTest::baseAndStep);
    Checks.sentence("base  := '*' | atom | atom '-' atom", SyntaxEdgesTest::starsAndDashes);
    Checks.sentence("atom  := D | D D | L L L", SyntaxEdgesTest::atomLengths);
    Checks.sentence("step  := D | D D", SyntaxEdgesTest::stepLengths);
    Checks.sentence("D is a digit '0'..'9'", SyntaxEdgesTest::digitsAndTheirNeighbours);
    Checks.sentence("L is a letter 'A'..'Z' or 'a'..'z'", SyntaxEdgesTest::lettersAndTheirNeighbours);
  }

  private static void sentencesOnValues() {
    Checks.under("Syntax");
    Checks.sentence("| minute | [0,59] |", () -> bounds(MINUTE, 0, 59));
    Checks.sentence("| hour | [0,23] |", () -> bounds(HOUR, 0, 23));
    Checks.sentence("| day of month | [1,31] |", () -> bounds(DOM, 1, 31));
    Checks.sentence("| month | [1,12] |", () -> bounds(MONTH, 1, 12));
    Checks.sentence("| day of week | [0,7] |", () -> bounds(DOW, 0, 7));
    Checks.sentence("A digit atom has its decimal value", SyntaxEdgesTest::decimalValues);
    Checks.sentence("a leading zero is allowed", SyntaxEdgesTest::leadingZeros);
    Checks.sentence("A letter atom is a name, with case ignored.", SyntaxEdgesTest::caseOfNames);
    Checks.sentence("Names are allowed only in two fields", SyntaxEdgesTest::fieldsOfNames);
    Checks.sentence("JAN FEB MAR APR MAY JUN JUL AUG SEP OCT NOV DEC, meaning 1..12",
        () -> names(MONTH, Texts.MONTHS, 1));
    Checks.sentence("SUN MON TUE WED THU FRI SAT, meaning 0..6", () -> names(DOW, Texts.WEEKDAYS, 0));
  }

  private static void sentencesOnRejection() {
    Checks.under("Syntax");
    Checks.sentence("the number of fields is not 5", SyntaxEdgesTest::wrongNumberOfFields);
    Checks.sentence("a field is not derivable", SyntaxEdgesTest::notDerivable);
    Checks.sentence("a letter atom is not a name allowed in its field", SyntaxEdgesTest::noNameOfTheField);
    Checks.sentence("an atom value is outside `[lo,hi]` of its field", SyntaxEdgesTest::valueOutside);
    Checks.sentence("a range `A-B` has `A > B`", SyntaxEdgesTest::rangeBackwards);
    Checks.sentence("with values compared as numbers (7 counts as 7)", SyntaxEdgesTest::sevenCountsAsSeven);
    Checks.sentence("a step is 0", SyntaxEdgesTest::stepZero);
    Checks.sentence("The text is **rejected** when any of these holds", SyntaxEdgesTest::oneFaultIsEnough);
  }

  private static void sentencesOnMeaning() {
    Checks.under("Meaning");
    Checks.sentence("base `*` gives `a = lo`, `b = hi`", SyntaxEdgesTest::starIsAll);
    Checks.sentence("base `A` gives `a = A`, with `b = hi` when a step is present", SyntaxEdgesTest::steppedToTheTop);
    Checks.sentence("and `b = A` otherwise", SyntaxEdgesTest::valueAlone);
    Checks.sentence("base `A-B` gives `a = A`, `b = B`", SyntaxEdgesTest::rangeWithItsEnds);
    Checks.sentence("`s = 1` when absent", SyntaxEdgesTest::noStepIsOne);
    Checks.sentence("the values `a, a+s, a+2s, ...` that are not greater than `b`", SyntaxEdgesTest::lastStep);
    Checks.sentence("A field's set is the union of the sets of its items.", SyntaxEdgesTest::union);
    Checks.sentence("In the day of week set, the value 7 is stored as 0 (Sunday).", SyntaxEdgesTest::sevenIsSunday);
    Checks.sentence("A day field (day of month or day of week) is **starred**", SyntaxEdgesTest::onlyDayFields);
    Checks.sentence("when the first character of that field is `*`", SyntaxEdgesTest::firstCharacterIsStar);
  }

  private static String all(int field) {
    return field == DOW ? ALL_WEEK : Checks.range(Texts.LOW[field], Texts.HIGH[field], 1);
  }

  // ---- fields and spaces ----

  private static void onlySpacesPart() {
    Texts.stages("1 2 3 4 5", "[1][2][3][4][5]");
    Texts.stages("11 2 3 4 5", "[11][2][3][4][5]");
    Texts.rejectsText("1 2 3 45");
    Texts.rejectsText("12 3 4 5");
    for (char c = 33; c <= 126; c++) {
      Texts.rejectsText("1 2 3 4" + c + "5");
      Texts.rejectsText("1" + c + "2" + c + "3" + c + "4" + c + "5");
    }
  }

  private static void anyNumberOfSpaces() {
    String[] fields = {"1", "2", "3", "4", "5"};
    for (int place = 0; place <= 5; place++) {
      int least = place == 0 || place == 5 ? 0 : 1;
      for (int spaces = least; spaces <= 55; spaces++) {
        StringBuilder text = new StringBuilder();
        for (int field = 0; field < 5; field++) {
          text.append(" ".repeat(field == place ? spaces : field == 0 ? 0 : 1)).append(fields[field]);
        }
        text.append(" ".repeat(place == 5 ? spaces : 0));
        Texts.stages(text.toString(), "[1][2][3][4][5]");
      }
    }
    Texts.stages("  1   2    3  4   5    ", "[1][2][3][4][5]");
  }

  private static void exactlyFive() {
    Texts.rejectsText("1 2 3 4");
    Texts.stages("1 2 3 4 5", "[1][2][3][4][5]");
    Texts.rejectsText("1 2 3 4 5 6");
  }

  private static void fieldOrder() {
    Texts.stages("59 23 31 12 6", "[59][23][31][12][6]");
    Texts.stages("0 0 1 1 0", "[0][0][1][1][0]");
    Texts.rejectsText("23 59 31 12 6");
    Texts.rejectsText("59 31 23 12 6");
    Texts.rejectsText("59 23 12 31 6");
    Texts.rejectsText("59 23 31 6 12");
    Texts.rejectsText("59 23 31 SUN JAN");
    Texts.rejectsText("0 0 0 1 1");
    Texts.rejectsText("0 0 1 0 1");
  }

  // ---- the grammar ----

  private static void itemsAndCommas() {
    Texts.gives(MINUTE, "1", "1");
    Texts.gives(MINUTE, "1,2", "1 2");
    Texts.gives(MINUTE, "*,1-2/3,4/50,5", all(MINUTE));
    // Twenty-eight items beside the other four fields are the most that the text can hold.
    Texts.gives(MINUTE, "1,2,3,4,5,6,7,8,9,1,2,3,4,5,6,7,8,9,1,2,3,4,5,6,7,8,9,0", Checks.range(0, 9, 1));
    Texts.rejectsInEveryField(",", ",,", ",1", "1,", "1,,2", ",1,2", "1,2,", "*,", ",*", "1,2,,3");
  }

  private static void baseAndStep() {
    Texts.gives(HOUR, "5", "5");
    Texts.gives(HOUR, "5/9", "5 14 23");
    Texts.gives(HOUR, "5-14/9", "5 14");
    Texts.gives(HOUR, "*/9", "0 9 18");
    Texts.rejectsInEveryField("/", "/2", "1/", "*/", "1-2/", "1//2", "1/2/3", "*/2/3", "1-2/3/4", "1,/2", "1/,2");
  }

  private static void starsAndDashes() {
    Texts.gives(HOUR, "*", all(HOUR));
    Texts.gives(HOUR, "3", "3");
    Texts.gives(HOUR, "3-4", "3 4");
    Texts.rejectsInEveryField("**", "*1", "1*", "*-2", "1-*", "*-*", "-", "--", "1-", "-2", "1--2", "1-2-3", "1-2-",
        "-1-2", "-/2", "1-/2", "-2/2", "1/2-3", "*/2-3", "**/2", "*1/2");
  }

  private static void atomLengths() {
    Texts.gives(MONTH, "1", "1");
    Texts.gives(MONTH, "11", "11");
    Texts.gives(MONTH, "NOV", "11");
    Texts.gives(DOW, "1", "1");
    Texts.gives(DOW, "01", "1");
    Texts.gives(DOW, "MON", "1");
    Texts.rejectsInEveryField("001", "111", "000", "0001", "1-001", "001-2", "1,001");
    Texts.rejects(MONTH, "N", "NO", "NOVE", "NOVEMBER", "1N", "N1", "NO1", "1OV", "N0V", "JANFEB", "1-NO", "NOVE-12");
    Texts.rejects(DOW, "M", "MO", "MOND", "MONDAY", "1M", "M1", "MO1", "1ON", "M0N", "SUNMON", "1-MO", "MOND-6");
  }

  private static void stepLengths() {
    Texts.gives(MINUTE, "50/1", Checks.range(50, 59, 1));
    Texts.gives(MINUTE, "50/9", "50 59");
    Texts.gives(MINUTE, "50/09", "50 59");
    Texts.gives(MINUTE, "*/10", "0 10 20 30 40 50");
    Texts.gives(MINUTE, "*/99", "0");
    Texts.rejectsInEveryField("*/", "*/001", "*/010", "*/100", "*/999", "1/100", "1-2/100", "*/1,*/100");
    Texts.rejects(MONTH, "*/JAN", "1/FEB", "1-2/MAR");
    Texts.rejects(DOW, "*/MON", "1/TUE", "1-2/WED");
    Texts.rejectsInEveryField("*/*", "*/-1", "*/+1", "*/1-2");
  }

  private static void digitsAndTheirNeighbours() {
    for (char c = 33; c <= 126; c++) {
      boolean digit = c >= '0' && c <= '9';
      if (digit) {
        Texts.gives(MINUTE, "" + c, "" + c);
        Texts.gives(MINUTE, "4" + c, "4" + c);
        Texts.gives(HOUR, "1" + c, "1" + c);
        Texts.gives(MINUTE, "*/5" + c, "0 5" + c);
      } else {
        Texts.rejects(MINUTE, "4" + c, c + "4", "*/5" + c, "*/" + c);
        if (c != '*') {
          Texts.rejects(MINUTE, "" + c);
        }
      }
    }
  }

  private static void lettersAndTheirNeighbours() {
    for (char c : new char[] {'@', '[', '`', '{', '/', ':', '-', '!'}) {
      Texts.rejectsInEveryField("" + c + c + c);
      Texts.rejects(MONTH, c + "UG", "A" + c + "G", "AU" + c, "M" + c + "Y");
      Texts.rejects(DOW, c + "AT", "S" + c + "T", "SA" + c, "S" + c + "N");
    }
    // Of all codes only the letter itself, in either case, completes the name.
    for (char c = 33; c <= 126; c++) {
      Checks.due("compile with " + c + "an in the month field", Checks.compiles(new CronEngine(1),
          Texts.with(MONTH, c + "an")), c == 'J' || c == 'j');
      Checks.due("compile with sA" + c + " in the day of week field", Checks.compiles(new CronEngine(1),
          Texts.with(DOW, "sA" + c)), c == 'T' || c == 't');
    }
  }

  // ---- values ----

  private static void bounds(int field, int lo, int hi) {
    Texts.gives(field, "" + lo, "" + lo);
    Texts.gives(field, "" + hi, hi == 7 ? "0" : "" + hi);
    Texts.gives(field, lo + "-" + hi, all(field));
    Texts.rejects(field, "" + (hi + 1), lo + "-" + (hi + 1), (hi + 1) + "-" + (hi + 1), (hi + 1) + "/1", "99");
    Texts.rejects(field, lo + "," + (hi + 1), (hi + 1) + "," + lo);
    if (lo > 0) {
      Texts.rejects(field, "0", "00", "0-" + hi, "0-0", "0/1", "1,0", "0,1");
    }
  }

  private static void decimalValues() {
    for (int v = 0; v <= 59; v++) {
      Texts.gives(MINUTE, "" + v, "" + v);
    }
  }

  private static void leadingZeros() {
    for (int field = 0; field < 5; field++) {
      for (int v = Texts.LOW[field]; v <= Math.min(9, Texts.HIGH[field]); v++) {
        String stored = field == DOW && v == 7 ? "0" : "" + v;
        Texts.gives(field, "0" + v, stored);
        Texts.gives(field, "0" + v + "-0" + v, stored);
      }
    }
    Texts.gives(MINUTE, "00", "0");
    Texts.gives(MINUTE, "08-09", "8 9");
    Texts.gives(MINUTE, "55/02", "55 57 59");
    Texts.rejects(DOM, "00");
    Texts.rejects(MONTH, "00");
    Texts.rejects(DOW, "08");
    Texts.rejectsInEveryField("007", "1-007");
  }

  private static void caseOfNames() {
    for (int mask = 0; mask < 8; mask++) {
      for (int i = 0; i < 12; i++) {
        Texts.gives(MONTH, inCase(Texts.MONTHS[i], mask), "" + (i + 1));
      }
      for (int i = 0; i < 7; i++) {
        Texts.gives(DOW, inCase(Texts.WEEKDAYS[i], mask), "" + i);
      }
    }
  }

  private static String inCase(String name, int mask) {
    StringBuilder written = new StringBuilder();
    for (int i = 0; i < 3; i++) {
      char c = name.charAt(i);
      written.append((mask >> i & 1) == 0 ? c : Character.toLowerCase(c));
    }
    return written.toString();
  }

  private static void fieldsOfNames() {
    for (int field = 0; field < 5; field++) {
      for (String name : Texts.MONTHS) {
        Checks.due("compile with " + name + " in field " + field,
            Checks.compiles(new CronEngine(1), Texts.with(field, name)), field == MONTH);
      }
      for (String name : Texts.WEEKDAYS) {
        Checks.due("compile with " + name + " in field " + field,
            Checks.compiles(new CronEngine(1), Texts.with(field, name)), field == DOW);
      }
    }
  }

  private static void names(int field, String[] names, int first) {
    int last = first + names.length - 1;
    for (int i = 0; i < names.length; i++) {
      Texts.gives(field, names[i], "" + (first + i));
      Texts.gives(field, names[i] + "-" + last, Checks.range(first + i, last, 1));
      Texts.gives(field, first + "-" + names[i], Checks.range(first, first + i, 1));
      Texts.gives(field, names[0] + "-" + names[i], Checks.range(first, first + i, 1));
    }
  }

  // ---- rejection ----

  private static void wrongNumberOfFields() {
    String[] texts = {
      "", "*", "* *", "* * *", "* * * *", "* * * * * *", "* * * * * * *", "*****", "1 2 3 4 5 6", "1 2 3 4",
      " * * * * ", "* * * *" + " ".repeat(57), "* * * * *" + " ".repeat(54) + "*", "* ".repeat(32)
    };
    for (String text : texts) {
      Texts.rejectsText(text);
    }
  }

  private static void notDerivable() {
    Texts.rejectsInEveryField("?", "L", "1L", "1#2", "1W", "LW", "@", "1.5", "+1", "0x1", "1;2", "(1)", "1:2", "~", "!",
        "1!-2", "*x", "x*", "1,2;3", "1-2!", "a", "ab", "1a", "a1", "11a", "a11", "_", "\\", "\"*\"");
  }

  private static void noNameOfTheField() {
    Texts.rejectsInEveryField("abc", "ABC", "XXX", "day", "WEE", "ZZZ", "AAA", "zzz");
    Texts.rejects(MONTH, "SUN", "MON", "SAT", "JAM", "JUM", "MAI", "OKT", "DEZ", "1-SUN", "MON-2", "JAN,TUE", "FRI/2");
    Texts.rejects(DOW, "JAN", "MAR", "DEC", "SON", "MOM", "SUM", "THE", "FRY", "1-JAN", "MAR-6", "SUN,FEB", "DEC/2");
    for (int field : new int[] {MINUTE, HOUR, DOM}) {
      Texts.rejects(field, "JAN", "SUN", "1-DEC", "JAN-31", "1,MON", "TUE/2", "sat");
    }
  }

  private static void valueOutside() {
    for (int field = 0; field < 5; field++) {
      int lo = Texts.LOW[field];
      int hi = Texts.HIGH[field];
      for (int v = 0; v <= 99; v++) {
        if (v < lo || v > hi) {
          Texts.rejects(field, "" + v, v + "/2", lo + "-" + v, v + "-" + hi, v + "-" + v, lo + "," + v, v + "," + lo);
        }
      }
    }
  }

  private static void rangeBackwards() {
    for (int field = 0; field < 5; field++) {
      for (int a = Texts.LOW[field]; a <= Texts.HIGH[field]; a++) {
        Checks.due("compile with " + a + "-" + a + " in field " + field,
            Checks.compiles(new CronEngine(1), Texts.with(field, a + "-" + a)), true);
        if (a > Texts.LOW[field]) {
          Texts.rejects(field, a + "-" + (a - 1), a + "-" + Texts.LOW[field], a + "-" + (a - 1) + "/1");
        }
      }
    }
    Texts.rejects(MONTH, "FEB-JAN", "DEC-JAN", "FEB-1", "2-JAN", "NOV-FEB");
    Texts.rejects(DOW, "MON-SUN", "SAT-SUN", "FRI-MON", "1-SUN", "MON-0");
  }

  private static void sevenCountsAsSeven() {
    Texts.gives(DOW, "0-7", ALL_WEEK);
    Texts.gives(DOW, "SUN-7", ALL_WEEK);
    Texts.gives(DOW, "6-7", "0 6");
    Texts.gives(DOW, "7-7", "0");
    Texts.rejects(DOW, "7-0", "7-SUN", "7-1", "7-6", "7-SAT", "7-0/2");
    // Were they compared as texts, these would turn around.
    Texts.gives(MINUTE, "9-10", "9 10");
    Texts.gives(MINUTE, "5-05", "5");
    Texts.rejects(MINUTE, "10-9", "10-09", "30-4");
    Texts.gives(MONTH, "APR-AUG", "4 5 6 7 8");
    Texts.gives(MONTH, "FEB-APR", "2 3 4");
    Texts.rejects(MONTH, "APR-FEB", "AUG-APR", "AUG-JUL");
  }

  private static void stepZero() {
    Texts.rejectsInEveryField("*/0", "*/00", "1/0", "1/00", "1-3/0", "1-3/00", "1-1/0", "1,*/0", "*/0,1", "*/1,2/0");
    Texts.gives(MINUTE, "*/01", all(MINUTE));
  }

  /** One fault in one place, the rest being right, for each kind of fault, each field and each place in a list. */
  private static void oneFaultIsEnough() {
    for (String fault : new String[] {"", "1-", "x", "60", "3-2", "*/0", "ABC"}) {
      for (int field = 0; field < 5; field++) {
        if (!fault.isEmpty()) {
          Texts.rejects(field, fault);
        }
        Texts.rejects(field, fault + ",1", "1," + fault, "1," + fault + ",2", "*," + fault);
      }
    }
  }

  // ---- meaning ----

  private static void starIsAll() {
    for (int field = 0; field < 5; field++) {
      Texts.gives(field, "*", all(field));
      Texts.gives(field, "*/1", all(field));
    }
    Texts.gives(DOM, "*/30", "1 31");
    Texts.gives(MONTH, "*/11", "1 12");
    Texts.gives(MINUTE, "*/59", "0 59");
    Texts.gives(HOUR, "*/23", "0 23");
    Texts.gives(DOW, "*/6", "0 6");
  }

  private static void steppedToTheTop() {
    Texts.gives(MINUTE, "58/1", "58 59");
    Texts.gives(MINUTE, "0/59", "0 59");
    Texts.gives(HOUR, "22/1", "22 23");
    Texts.gives(DOM, "30/1", "30 31");
    Texts.gives(DOM, "1/30", "1 31");
    Texts.gives(MONTH, "11/1", "11 12");
    Texts.gives(MONTH, "NOV/1", "11 12");
    Texts.gives(DOW, "5/1", "0 5 6");
    Texts.gives(DOW, "FRI/1", "0 5 6");
    Texts.gives(DOW, "5/2", "0 5");
    for (int field = 0; field < 4; field++) {
      Texts.gives(field, Texts.HIGH[field] + "/1", "" + Texts.HIGH[field]);
      Texts.gives(field, Texts.HIGH[field] + "/99", "" + Texts.HIGH[field]);
    }
    Texts.gives(DOW, "7/1", "0");
  }

  private static void valueAlone() {
    for (int field = 0; field < 5; field++) {
      for (int v = Texts.LOW[field]; v <= Texts.HIGH[field]; v++) {
        Texts.gives(field, "" + v, field == DOW && v == 7 ? "0" : "" + v);
      }
    }
  }

  private static void rangeWithItsEnds() {
    Texts.gives(MINUTE, "0-59", all(MINUTE));
    Texts.gives(MINUTE, "0-0", "0");
    Texts.gives(MINUTE, "59-59", "59");
    Texts.gives(MINUTE, "58-59", "58 59");
    Texts.gives(HOUR, "0-1", "0 1");
    Texts.gives(DOM, "1-31", all(DOM));
    Texts.gives(DOM, "30-31", "30 31");
    Texts.gives(MONTH, "JAN-DEC", all(MONTH));
    Texts.gives(MONTH, "3-MAR", "3");
    Texts.gives(DOW, "SUN-SAT", ALL_WEEK);
    Texts.gives(DOW, "1-6", "1 2 3 4 5 6");
  }

  private static void noStepIsOne() {
    for (int field = 0; field < 5; field++) {
      for (String base : new String[] {"*", "2-5"}) {
        CronEngine x = Checks.withStaged(1, Texts.with(field, base));
        Texts.gives(field, base + "/1", Checks.set(x, field));
      }
    }
    Texts.gives(MINUTE, "2-5", "2 3 4 5");
  }

  private static void lastStep() {
    Texts.gives(MINUTE, "10-20/5", "10 15 20");
    Texts.gives(MINUTE, "10-19/5", "10 15");
    Texts.gives(MINUTE, "10-21/5", "10 15 20");
    Texts.gives(MINUTE, "10-20/10", "10 20");
    Texts.gives(MINUTE, "10-20/11", "10");
    Texts.gives(MINUTE, "10-20/99", "10");
    Texts.gives(MINUTE, "10-10/1", "10");
    Texts.gives(MINUTE, "*/60", "0");
    Texts.gives(MINUTE, "59/99", "59");
    // Steps that would pass the set's own width and come around to its low values.
    Texts.gives(MINUTE, "50/15", "50");
    Texts.gives(MINUTE, "1/64", "1");
    Texts.gives(DOW, "6/2", "6");
    for (int step = 1; step <= 99; step++) {
      Texts.gives(DOM, "3-29/" + step, Checks.range(3, 29, step));
    }
  }

  private static void union() {
    Texts.gives(MINUTE, "5,5", "5");
    Texts.gives(MINUTE, "1-3,2-4", "1 2 3 4");
    Texts.gives(MINUTE, "59,0", "0 59");
    Texts.gives(MINUTE, "3,2,1", "1 2 3");
    Texts.gives(MINUTE, "1-2,4-5", "1 2 4 5");
    Texts.gives(MINUTE, "*/30,15/30", "0 15 30 45");
    Texts.gives(MINUTE, "7,*", all(MINUTE));
    Texts.gives(DOW, "0,7", "0");
    Texts.gives(DOW, "6,7", "0 6");
  }

  private static void sevenIsSunday() {
    Texts.gives(DOW, "7", "0");
    Texts.gives(DOW, "07", "0");
    Texts.gives(DOW, "7,0", "0");
    Texts.gives(DOW, "1,7", "0 1");
    Texts.gives(DOW, "5-7", "0 5 6");
    Texts.gives(DOW, "1-7", ALL_WEEK);
    Texts.gives(DOW, "1-7/6", "0 1");
    Texts.gives(DOW, "*/7", "0");
    Texts.gives(DOW, "1/2", "0 1 3 5");
    Texts.gives(DOW, "1/3", "0 1 4");
    Texts.gives(DOW, "7/1", "0");
    Texts.gives(MINUTE, "7", "7");
    Texts.gives(HOUR, "7", "7");
    Texts.gives(DOM, "7", "7");
    Texts.gives(MONTH, "7", "7");
  }

  private static void onlyDayFields() {
    CronEngine x = Checks.withStaged(1, "* * 1 * 1");
    for (int field = 0; field < 5; field++) {
      Checks.due("dayStarred(" + field + ") of '* * 1 * 1'", x.dayStarred(field), false);
    }
    starredIs("1 1 * 1 1", true, false);
    starredIs("1 1 1 1 *", false, true);
    starredIs("1 1 * 1 *", true, true);
  }

  private static void firstCharacterIsStar() {
    for (String starred : new String[] {"*", "*/2", "*/99", "*,1", "*,*", "*/3,5-7"}) {
      starredIs("1 1 " + starred + " 1 1", true, false);
      starredIs("1 1 1 1 " + starred, false, true);
      starredIs("  1 1   " + starred + "   1   " + starred + "  ", true, true);
    }
    for (String plain : new String[] {"1", "1,*", "1-7", "1/1", "5,*/2", "07", "1,*,2"}) {
      starredIs("* * " + plain + " * " + plain, false, false);
      starredIs("* * * * " + plain, true, false);
      starredIs("* * " + plain + " * *", false, true);
    }
    // Full sets that no star wrote.
    starredIs("* * 1-31 * 0-7", false, false);
    starredIs("* * 1/1 * SUN-SAT", false, false);
  }

  private static void starredIs(String text, boolean dom, boolean dow) {
    CronEngine x = Checks.withStaged(1, text);
    Checks.due("dayStarred(F_DOM) of '" + text + "'", x.dayStarred(DOM), dom);
    Checks.due("dayStarred(F_DOW) of '" + text + "'", x.dayStarred(DOW), dow);
  }
}
