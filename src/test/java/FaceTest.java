import java.lang.reflect.Constructor;
import java.lang.reflect.Field;
import java.lang.reflect.Method;
import java.lang.reflect.Modifier;
import java.util.Arrays;
import java.util.Set;
import java.util.TreeSet;

/** The public face of the document: every constant, constructor and method, and no other visible member. */
public final class FaceTest {
  private static final String[] FACE = {
    "public static final int NONE = -1",
    "public static final int MAXT = 4206239",
    "public static final int TEXT_CAP = 64",
    "public static final int MAX_JOBS = 8",
    "public static final int F_MINUTE = 0",
    "public static final int F_HOUR = 1",
    "public static final int F_DOM = 2",
    "public static final int F_MONTH = 3",
    "public static final int F_DOW = 4",
    "public static final int T_YEAR = 0",
    "public static final int T_MONTH = 1",
    "public static final int T_DAY = 2",
    "public static final int T_HOUR = 3",
    "public static final int T_MINUTE = 4",
    "public static final int T_DOW = 5",
    "public static final int MIS_FIRE_ONCE = 0",
    "public static final int MIS_SKIP = 1",
    "public static final int MIS_FIRE_ALL = 2",
    "public static final int CON_ALLOW = 0",
    "public static final int CON_FORBID = 1",
    "public static final int CON_REPLACE = 2",
    "public static final int S_RUNNING = 0",
    "public static final int S_STARTED = 1",
    "public static final int S_COMPLETED = 2",
    "public static final int S_DROPPED = 3",
    "public static final int S_CANCELLED = 4",
    "public static final int S_MISFIRES = 5",
    "public static final int S_NEXT = 6",
    "public static final int S_MISFIRE_POLICY = 7",
    "public static final int S_CONCURRENCY_POLICY = 8",
    "public CronEngine(int)",
    "public void CronEngine.clearText()",
    "public boolean CronEngine.putChar(int)",
    "public int CronEngine.textLength()",
    "public boolean CronEngine.compile()",
    "public boolean CronEngine.fieldHas(int,int)",
    "public boolean CronEngine.dayStarred(int)",
    "public int CronEngine.nextFire(int)",
    "public int CronEngine.makeTime(int,int,int,int)",
    "public int CronEngine.timeField(int,int)",
    "public int CronEngine.addJob(int,int)",
    "public boolean CronEngine.removeJob(int)",
    "public int CronEngine.advance(int)",
    "public boolean CronEngine.complete(int)",
    "public int CronEngine.getClock()",
    "public int CronEngine.jobStat(int,int)"
  };

  public static void main(String[] args) throws IllegalAccessException {
    Set<String> seen = new TreeSet<>();
    for (Field field : CronEngine.class.getDeclaredFields()) {
      if (!Modifier.isPrivate(field.getModifiers())) {
        String head = Modifier.toString(field.getModifiers()) + " " + field.getType() + " " + field.getName();
        seen.add(Modifier.isStatic(field.getModifiers()) ? head + " = " + field.get(null) : head);
      }
    }
    for (Constructor<?> constructor : CronEngine.class.getDeclaredConstructors()) {
      if (!Modifier.isPrivate(constructor.getModifiers())) {
        seen.add(constructor.toString());
      }
    }
    for (Method method : CronEngine.class.getDeclaredMethods()) {
      if (!Modifier.isPrivate(method.getModifiers())) {
        seen.add(method.toString());
      }
    }
    Checks.due("the face", seen, new TreeSet<>(Arrays.asList(FACE)));
    Checks.due("the class", CronEngine.class.toGenericString(), "public final class CronEngine");
    Checks.due("nested classes", CronEngine.class.getDeclaredClasses().length, 0);
    Checks.due("interfaces", CronEngine.class.getInterfaces().length, 0);
    Checks.due("superclass", CronEngine.class.getSuperclass(), Object.class);
    Checks.end();
  }
}
