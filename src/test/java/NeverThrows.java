import java.lang.reflect.InvocationTargetException;
import java.lang.reflect.Method;
import java.lang.reflect.Modifier;
import java.util.List;
import java.util.Random;

/** Every method with numbers from the far ends and around every limit, in several scenes: no call throws. */
public final class NeverThrows extends Bench {
  private static final int[] NUMBERS = {LEAST, LEAST + 1, -100000000, -257, -256, -9, -3, -2, -1, 0, 1, 2, 3, 5, 6, 7, 8, 9, 10,
      15, 16, 17, 18, 20, 21, 63, 64, 65, 127, 128, 159, 160, 161, 199, 200, 201, 255, 256, 257, 0x61620000, MOST - 1, MOST};
  private static final int MOST_CALLS = 400;
  private static final int DRAWN = 4000;
  private static final List<Scene> SCENES =
      List.of(x -> { }, RefusedTests::ordinary, RefusedTests::full, RefusedTests::emptied);

  private final Scene scene;
  private final Random random = new Random(46);
  private BeginningsFilter x = new BeginningsFilter();
  private int calls = MOST_CALLS;

  private NeverThrows(Scene scene) { this.scene = scene; }

  public static void main(String[] args) throws IllegalAccessException {
    says("no call may ever throw, for any arguments in any state");
    for (Scene scene : SCENES) new NeverThrows(scene).go();
    end("NeverThrows");
  }

  private void go() throws IllegalAccessException {
    for (Method m : BeginningsFilter.class.getDeclaredMethods()) {
      if (!Modifier.isPublic(m.getModifiers())) continue;
      int n = m.getParameterCount();
      int most = n <= 2 ? (int) Math.pow(NUMBERS.length, n) : DRAWN;
      int thrown = 0;
      for (int i = 0; i < most; i++) thrown += throwsBy(m, n <= 2 ? counted(m, i) : drawn(m)) ? 1 : 0;
      due(m.getName() + " threw", thrown, 0);
    }
  }

  private boolean throwsBy(Method m, Object[] numbers) throws IllegalAccessException {
    if (calls >= MOST_CALLS) {
      x = new BeginningsFilter();
      scene.on(x);
      calls = 0;
    }
    calls++;
    try {
      m.invoke(x, numbers);
      return false;
    } catch (InvocationTargetException e) {
      System.out.println(m.getName() + " " + List.of(numbers) + ": " + e.getCause());
      return true;
    }
  }

  private static Object number(Method m, int i, int v) {
    return m.getParameterTypes()[i] == boolean.class ? (Object) (v % 2 == 0) : (Object) v;
  }

  private Object[] counted(Method m, int i) {
    Object[] all = new Object[m.getParameterCount()];
    int rest = i;
    for (int k = 0; k < all.length; k++) {
      all[k] = number(m, k, NUMBERS[rest % NUMBERS.length]);
      rest /= NUMBERS.length;
    }
    return all;
  }

  private Object[] drawn(Method m) {
    Object[] all = new Object[m.getParameterCount()];
    for (int k = 0; k < all.length; k++) all[k] = number(m, k, NUMBERS[random.nextInt(NUMBERS.length)]);
    return all;
  }
}
