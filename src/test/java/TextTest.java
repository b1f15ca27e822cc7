/** Promises 2 to 4: clearText, putChar, textLength. */
public final class TextTest {
  public static void main(String[] args) {
    checkEveryCode();
    checkFarCodes();
    checkCapacity();
    checkRefusedCharsLeaveTheText();
    checkClearText();
    checkCharsStayInOrder();
    checkNothingElseChanges();
    Checks.end();
  }

  private static void checkEveryCode() {
    for (int c = -300; c <= 700; c++) {
      CronEngine x = new CronEngine(1);
      boolean taken = c >= 32 && c <= 126;
      Checks.due("putChar(" + c + ")", x.putChar(c), taken);
      Checks.due("textLength() after putChar(" + c + ")", x.textLength(), taken ? 1 : 0);
    }
  }

  private static void checkFarCodes() {
    int[] codes = {Integer.MIN_VALUE, Integer.MAX_VALUE, 65536 + '1', -65536 + '1', (1 << 31) + '1'};
    for (int c : codes) {
      CronEngine x = new CronEngine(1);
      Checks.due("putChar(" + c + ")", x.putChar(c), false);
      Checks.due("textLength() after putChar(" + c + ")", x.textLength(), 0);
    }
  }

  private static void checkCapacity() {
    CronEngine x = new CronEngine(1);
    Checks.type(x, "* * * * *");
    for (int length = 9; length < 64; length++) {
      Checks.due("textLength()", x.textLength(), length);
      Checks.due("putChar(32) at length " + length, x.putChar(' '), true);
    }
    for (int i = 0; i < 3; i++) {
      Checks.due("textLength() of the full text", x.textLength(), 64);
      Checks.due("putChar('1') at the full text", x.putChar('1'), false);
      Checks.due("putChar(31) at the full text", x.putChar(31), false);
    }
    // A sixth field would have come of a character taken beyond the capacity.
    Checks.due("compile() of the full text", x.compile(), true);
    Checks.due("textLength() after compile()", x.textLength(), 0);
    Checks.due("putChar('1') after compile()", x.putChar('1'), true);
  }

  private static void checkRefusedCharsLeaveTheText() {
    CronEngine x = new CronEngine(1);
    int[] refused = {31, 127, -1, 0, 10, 65536 + '7'};
    for (char c : "5 4 3 2 1".toCharArray()) {
      x.putChar(c);
      for (int r : refused) {
        x.putChar(r);
      }
    }
    Checks.due("textLength()", x.textLength(), 9);
    Checks.due("compile()", x.compile(), true);
    Checks.due("the sets", Checks.staged(x), "[5][4][3][2][1]");
  }

  private static void checkClearText() {
    CronEngine x = new CronEngine(1);
    x.clearText();
    Checks.due("textLength() of an empty text cleared", x.textLength(), 0);
    Checks.type(x, "59 ");
    x.clearText();
    Checks.due("textLength() after clearText()", x.textLength(), 0);
    Checks.type(x, "5 4 3 2 1");
    Checks.due("textLength() of a text typed after clearText()", x.textLength(), 9);
    Checks.due("compile() of a text typed after clearText()", x.compile(), true);
    Checks.due("the sets", Checks.staged(x), "[5][4][3][2][1]");
    Checks.type(x, "* * * * *");
    x.clearText();
    Checks.due("compile() after clearText()", x.compile(), false);
    Checks.type(x, "1".repeat(64));
    x.clearText();
    Checks.due("textLength() of a full text cleared", x.textLength(), 0);
    Checks.due("putChar('1') after clearing a full text", x.putChar('1'), true);
  }

  private static void checkCharsStayInOrder() {
    CronEngine x = new CronEngine(1);
    Checks.type(x, "12 21 13 12 3");
    Checks.due("textLength()", x.textLength(), 13);
    Checks.due("textLength() asked again", x.textLength(), 13);
    Checks.due("compile()", x.compile(), true);
    Checks.due("the sets", Checks.staged(x), "[12][21][13][12][3]");
  }

  private static void checkNothingElseChanges() {
    CronEngine x = Checks.withStaged(3, "*/7 3 *,2 * 1");
    x.addJob(2, 0);
    x.addJob(0, 1);
    x.advance(1000);
    String schedule = Checks.staged(x);
    String jobs = Checks.jobs(x);
    for (int i = 0; i < 70; i++) {
      x.putChar('*');
      x.putChar(127);
    }
    Checks.due("the sets after putChar", Checks.staged(x), schedule);
    Checks.due("the jobs after putChar", Checks.jobs(x), jobs);
    Checks.due("the clock after putChar", x.getClock(), 1000);
    x.clearText();
    x.clearText();
    Checks.due("the sets after clearText", Checks.staged(x), schedule);
    Checks.due("the jobs after clearText", Checks.jobs(x), jobs);
    Checks.due("the clock after clearText", x.getClock(), 1000);
  }
}
