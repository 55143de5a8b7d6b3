import java.lang.reflect.InvocationTargetException;
import java.lang.reflect.Method;
import java.lang.reflect.Modifier;
import java.util.Arrays;
import java.util.Comparator;

/** All calls with numbers at and far behind their ends, in towns of several states: none throws, refused ones change nothing. */
public final class EdgeTest {
  private static final int[] NUMBERS = {Integer.MIN_VALUE, -13, -1, 0, 1, 4, 11, 12, 59, 60, 100, 199, 1440, Integer.MAX_VALUE};

  public static void main(String[] args) throws Exception {
    for (int state = 0; state < 4; state++) allCalls(town(state), state);
    longDay();
    Due.end();
  }

  /** Nothing; a small town; all that there is room for in the midst of a day; the same at the day's end. */
  private static BikeTown town(int state) {
    BikeTown x = new BikeTown();
    if (state == 0) return x;
    if (state == 1) {
      x.post(0, 0, 1);
      x.post(0, 50, 1);
      x.bike(0);
      x.rider(0, 0, 1, 0);
      x.step(3);
      return x;
    }
    fill(x);
    x.step(state == 2 ? 700 : 1440);
    return x;
  }

  private static void fill(BikeTown x) {
    for (int p = 0; p < 12; p++) x.post(9 * p, 100 - 8 * p, 5);
    for (int b = 0; b < 60; b++) x.bike(b / 5);
    x.shop(3, 40);
    for (int r = 0; r < 200; r++) x.rider(7 * r, r % 12, (r * 5 + 1) % 12 == r % 12 ? (r + 1) % 12 : (r * 5 + 1) % 12, r % 4);
    for (int k = 0; k < 4; k++) x.kind(k, 20 * k + 20, 20 * k);
    for (int s = 0; s < 12; s++) x.site(8 * s, 50);
    for (int w = 0; w < 40; w++) x.wish(2 * w, 100 - w, w + 1);
    for (int t = 0; t < 60; t++) x.test(t, t % 3 == 0);
    for (int p = 0; p < 8; p++) x.want(p, p % 2 == 0 ? 12 : -12);
    int[] rule = new int[40];
    Arrays.fill(rule, 19);
    int[] end = {27, 14, 1, 18, 21, 12, 3, 17, 23, 12, 9, 20, 23, 13, 22, 10, 1};
    System.arraycopy(end, 0, rule, 40 - end.length, end.length);
    for (int i = 0; i < 9; i++) Due.rule(x, rule);
    Due.rule(x, 21, 12, 9, 9, 20, 30);
    for (int i = 0; i < 20; i++) x.stop(i % 12, i % 2 == 0 ? 12 : -12);
    for (int i = 0; i < 30; i++) x.faulty(2 * i);
  }

  private static void allCalls(BikeTown x, int state) throws Exception {
    Method[] calls = BikeTown.class.getDeclaredMethods();
    Arrays.sort(calls, Comparator.comparing(Method::getName));
    for (Method call : calls) {
      if (Modifier.isPublic(call.getModifiers())) callWithAll(x, call, new Object[call.getParameterCount()], 0, state);
    }
  }

  private static void callWithAll(BikeTown x, Method call, Object[] given, int i, int state) throws Exception {
    if (i == given.length) {
      callOnce(x, call, given, state);
    } else if (call.getParameterTypes()[i] == boolean.class) {
      for (boolean is : new boolean[] {false, true}) {
        given[i] = is;
        callWithAll(x, call, given, i + 1, state);
      }
    } else {
      for (int v : NUMBERS) {
        given[i] = v;
        callWithAll(x, call, given, i + 1, state);
      }
    }
  }

  private static void callOnce(BikeTown x, Method call, Object[] given, int state) throws Exception {
    boolean isLooked = given.length < 4;
    long before = isLooked ? x.digest() : 0;
    try {
      long answer = ((Number) call.invoke(x, given)).longValue();
      boolean isRefused = call.getReturnType() == int.class && answer <= -2 && answer >= -4;
      if (isRefused && isLooked) Due.is(call.getName() + Arrays.toString(given) + " in state " + state + ": digest", x.digest(), before);
    } catch (InvocationTargetException e) {
      Due.is(call.getName() + Arrays.toString(given) + " in state " + state + " threw " + e.getCause() + ": throws", 1, 0);
    }
  }

  /** As much as there is room for, for all days that are kept. */
  private static void longDay() {
    BikeTown x = new BikeTown();
    fill(x);
    for (int d = 1; d <= 20; d++) {
      Due.is("minutes of day " + d, x.step(1440), 1440);
      int done = 0;
      for (int r = 0; r < 200; r++) if (x.riderAt(r, 0) == 3) done++;
      Due.is("some ride", done > 20 ? 1 : 0, 1);
      int bikes = x.van(1), taken = 0;
      for (int p = 0; p < 12; p++) {
        bikes += x.postAt(p, 0);
        taken += x.postAt(p, 6);
        Due.is("as of now, post " + p, x.asOf(p, 1440), x.postAt(p, 0));
      }
      for (int b = 0; b < 60; b++) if (x.bikeAt(b, 0) == 1 || x.bikeAt(b, 0) == 3) bikes++;
      Due.is("no bike is lost", bikes, 60);
      Due.is("what if all were as it is but for nine alike", x.whatIf(9, 0) >= 0 ? 1 : 0, 1);
      Due.is("day " + d, x.endDay(d % 7), d);
      int told = 0;
      for (int p = 0; p < 12; p++) for (int h = 0; h < 24; h++) told += x.forecast(d % 7, p, h, 0);
      Due.is("the first day's rides", d == 1 ? told : taken, taken);
      Due.is("like days", x.forecast(0, 0, 23, 1), d < 14 ? d : d / 7);
    }
  }
}
