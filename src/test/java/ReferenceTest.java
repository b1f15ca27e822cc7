/** All promises together: many runs of chosen calls on new objects, each answer held against the reference. */
public final class ReferenceTest {
  public static void main(String[] args) {
    for (int seed = 0; seed < 400; seed++) {
      int cap = seed % 16 - 3;
      Twin twin = new Twin("run " + seed + ": ", cap);
      RandomCalls calls = new RandomCalls(seed, twin, CronEngine.MAXT);
      for (int i = 0; i < 150; i++) {
        calls.call();
        twin.looksSame();
      }
      twin.advance(Integer.MAX_VALUE);
      twin.looksSame();
    }
    Checks.end();
  }
}
