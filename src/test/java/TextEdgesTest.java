/** The boundary cases of the text and of promises 2 to 4, sentence by sentence. */
public final class TextEdgesTest {
  public static void main(String[] args) {
    Checks.under("What it is");
    Checks.sentence("`TEXT_CAP = 64`: the most characters the text can hold.", TextEdgesTest::sixtyFour);
    Checks.under("Text");
    Checks.sentence("The text buffer holds 0..TEXT_CAP characters.", TextEdgesTest::holdsNoneToAll);

    Checks.under("Promise 2: clearText");
    Checks.sentence("empties the text, so `textLength()` becomes 0", TextEdgesTest::clearEmpties);
    Checks.sentence("This holds in every state", TextEdgesTest::clearHoldsInEveryState);
    Checks.sentence("including when the text is already empty", TextEdgesTest::clearOfAnEmptyText);
    Checks.sentence("The staged schedule, the jobs and the clock are unchanged.", TextEdgesTest::clearLeavesTheRest);

    Checks.under("Promise 3: putChar");
    Checks.sentence("`c < 32`", TextEdgesTest::codeTooSmall);
    Checks.sentence("`c > 126`", TextEdgesTest::codeTooLarge);
    Checks.sentence("the text already holds TEXT_CAP characters", TextEdgesTest::textIsFull);
    Checks.sentence("Otherwise it appends the character with code `c` to the end of the text and answers true",
        TextEdgesTest::everyOtherCodeIsTaken);
    Checks.sentence("to the end of the text", TextEdgesTest::goesToTheEnd);
    Checks.sentence("so the text length grows by one", TextEdgesTest::growsByOne);
    Checks.sentence("Nothing but the text changes.", TextEdgesTest::putLeavesTheRest);

    Checks.under("Promise 4: textLength");
    Checks.sentence("the number of characters currently in the text", TextEdgesTest::lengthFollowsTheText);
    Checks.sentence("a value in 0..TEXT_CAP", TextEdgesTest::lengthStaysInRange);
    Checks.sentence("It changes nothing.", TextEdgesTest::lengthChangesNothing);
    Checks.end();
  }

  private static CronEngine withText(String text) {
    CronEngine x = new CronEngine(1);
    Checks.type(x, text);
    return x;
  }

  private static CronEngine full() {
    CronEngine x = withText(Texts.FULL);
    Checks.due("textLength() of a full text", x.textLength(), 64);
    return x;
  }

  private static void refused(int c) {
    CronEngine x = withText("1 2 3 4 5");
    Checks.due("putChar(" + c + ")", x.putChar(c), false);
    Checks.due("textLength() after putChar(" + c + ")", x.textLength(), 9);
    Checks.due("compile() after putChar(" + c + ")", x.compile(), true);
    Checks.due("the sets after putChar(" + c + ")", Checks.staged(x), "[1][2][3][4][5]");
  }

  private static void sixtyFour() {
    Checks.due("TEXT_CAP", CronEngine.TEXT_CAP, 64);
    CronEngine x = withText("*".repeat(63));
    Checks.due("putChar('*') as the 64th", x.putChar('*'), true);
    Checks.due("putChar('*') as the 65th", x.putChar('*'), false);
    Checks.due("textLength()", x.textLength(), 64);
  }

  private static void holdsNoneToAll() {
    Checks.due("compile() of no character", withText("").compile(), false);
    CronEngine x = full();
    Checks.due("compile() of 64 characters", x.compile(), true);
    Checks.due("the sets, the 64th character's among them", Checks.staged(x), "[1][2][3][4][5]");
    CronEngine y = withText("1 2 3 4" + " ".repeat(57) + "5");
    Checks.due("compile() when the 65th character would be the fifth field", y.compile(), false);
  }

  private static void clearEmpties() {
    for (int length = 0; length <= 64; length++) {
      CronEngine x = withText(Texts.FULL.substring(64 - length));
      x.clearText();
      Checks.due("textLength() after " + length + " characters were cleared", x.textLength(), 0);
      Checks.type(x, "6 7 8 9 0");
      Checks.due("compile() of a text typed after that", x.compile(), true);
      Checks.due("its sets", Checks.staged(x), "[6][7][8][9][0]");
    }
  }

  private static void clearHoldsInEveryState() {
    for (States.State state : States.ALL) {
      CronEngine x = state.make();
      x.clearText();
      Checks.due("textLength() with " + state.name(), x.textLength(), 0);
      Checks.due("compile() with " + state.name(), x.compile(), false);
    }
    States.emptiesTheText("clearText()", CronEngine::clearText);
  }

  private static void clearOfAnEmptyText() {
    CronEngine x = new CronEngine(1);
    x.clearText();
    Checks.due("textLength() of a new object", x.textLength(), 0);
    x.clearText();
    Checks.due("textLength() after a second clearText()", x.textLength(), 0);
    Checks.compiles(x, "1 2 3 4 5");
    x.clearText();
    Checks.due("textLength() after compile() and clearText()", x.textLength(), 0);
    Checks.due("putChar('7') after that", x.putChar('7'), true);
    Checks.due("textLength() after that", x.textLength(), 1);
    for (States.State state : States.ALL) {
      States.State untyped = new States.State(state.name() + ", its text untyped", state.untyped(), "");
      States.changesNothing(untyped, "clearText()", CronEngine::clearText);
    }
  }

  private static void clearLeavesTheRest() {
    States.changesOnlyTheText("clearText()", CronEngine::clearText);
  }

  private static void codeTooSmall() {
    for (int c = -300; c < 32; c++) {
      refused(c);
    }
    for (int c : new int[] {Integer.MIN_VALUE, Integer.MIN_VALUE + '6', -65536 + '6', -256 + '6', -'6'}) {
      refused(c);
    }
  }

  private static void codeTooLarge() {
    for (int c = 127; c <= 700; c++) {
      refused(c);
    }
    for (int c : new int[] {65536 + '6', (1 << 24) + '6', Integer.MAX_VALUE - 1, Integer.MAX_VALUE}) {
      refused(c);
    }
  }

  private static void textIsFull() {
    CronEngine last = withText(Texts.FULL.substring(0, 63));
    Checks.due("putChar('5') as the 64th", last.putChar('5'), true);
    Checks.due("putChar('5') as the 65th", last.putChar('5'), false);
    for (int c = 32; c <= 126; c++) {
      CronEngine x = full();
      Checks.due("putChar(" + c + ") at the full text", x.putChar(c), false);
      Checks.due("textLength() after that", x.textLength(), 64);
      Checks.due("compile() after that", x.compile(), true);
      Checks.due("the sets after that", Checks.staged(x), "[1][2][3][4][5]");
      Checks.due("putChar(" + c + ") after compile()", x.putChar(c), true);
    }
    CronEngine cleared = full();
    cleared.clearText();
    Checks.due("putChar('5') after clearText()", cleared.putChar('5'), true);
  }

  private static void everyOtherCodeIsTaken() {
    for (int c = 32; c <= 126; c++) {
      CronEngine first = new CronEngine(1);
      Checks.due("putChar(" + c + ") as the first", first.putChar(c), true);
      Checks.due("textLength()", first.textLength(), 1);
      CronEngine last = withText("1 2 3 4 5" + " ".repeat(54));
      Checks.due("putChar(" + c + ") as the 64th", last.putChar(c), true);
      Checks.due("textLength()", last.textLength(), 64);
      // Only a space leaves this text with five fields.
      Checks.due("compile() with " + c + " as the 64th", last.compile(), c == ' ');
    }
  }

  private static void goesToTheEnd() {
    CronEngine x = withText("12 21 1");
    Checks.type(x, "3 1");
    Checks.type(x, "2 3");
    Checks.due("compile()", x.compile(), true);
    Checks.due("the sets", Checks.staged(x), "[12][21][13][12][3]");
  }

  private static void growsByOne() {
    CronEngine x = new CronEngine(1);
    for (int length = 0; length < 64; length++) {
      Checks.due("textLength()", x.textLength(), length);
      Checks.due("putChar('*') at length " + length, x.putChar('*'), true);
    }
    Checks.due("textLength() at the end", x.textLength(), 64);
  }

  private static void putLeavesTheRest() {
    States.changesOnlyTheText("putChar('9')", x -> x.putChar('9'));
    States.changesOnlyTheText("putChar(126)", x -> x.putChar(126));
    States.changesOnlyTheText("70 times putChar('*')", x -> Checks.type(x, "*".repeat(70)));
  }

  private static void lengthFollowsTheText() {
    CronEngine x = withText("1 2");
    Checks.due("textLength()", x.textLength(), 3);
    x.putChar(31);
    Checks.due("textLength() after a refused putChar", x.textLength(), 3);
    x.putChar(' ');
    Checks.due("textLength() after a space", x.textLength(), 4);
    x.compile();
    Checks.due("textLength() after a rejected text", x.textLength(), 0);
    Checks.type(x, "1 2 3 4 5");
    Checks.due("textLength() of nine characters", x.textLength(), 9);
    x.compile();
    Checks.due("textLength() after an accepted text", x.textLength(), 0);
    x.putChar('1');
    x.clearText();
    Checks.due("textLength() after clearText()", x.textLength(), 0);
  }

  private static void lengthStaysInRange() {
    CronEngine x = new CronEngine(1);
    Checks.due("textLength() of a new object", x.textLength(), 0);
    for (int i = 1; i <= 200; i++) {
      x.putChar('1');
      Checks.due("textLength() after " + i + " characters", x.textLength(), Math.min(i, 64));
    }
  }

  private static void lengthChangesNothing() {
    States.changesNothingAnywhere("textLength()", x -> {
      x.textLength();
      x.textLength();
    });
  }
}
