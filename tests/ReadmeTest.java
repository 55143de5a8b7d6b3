import java.lang.reflect.Method;
import java.lang.reflect.Modifier;
import java.nio.file.Files;
import java.nio.file.Path;
import java.util.regex.Matcher;
import java.util.regex.Pattern;

/** Goes through the town of README.md, call by call; sees that the page names every call and constant of the face. */
public final class ReadmeTest {
  private static final Pattern CALL = Pattern.compile("(?m)^town\\.(\\w+)\\(([^)]*)\\); +// (\\S+)");
  private static final Pattern STATEMENT = Pattern.compile("(?m)^town\\.");

  public static void main(String[] args) throws Exception {
    String page = Files.readString(Path.of("README.md"));
    town(page);
    names(page);
    Due.end();
  }

  private static void town(String page) throws Exception {
    BikeTown town = new BikeTown();
    int calls = 0;
    Matcher m = CALL.matcher(page);
    while (m.find()) {
      calls++;
      Due.is("README: " + m.group(1) + "(" + m.group(2) + ")", answer(town, m.group(1), m.group(2)), due(m.group(3)));
    }
    Due.is("README: calls with an answer", calls, STATEMENT.matcher(page).results().count());
    Due.is("README: has a town", calls > 0 ? 1 : 0, 1);
  }

  private static long answer(BikeTown town, String name, String given) throws Exception {
    String[] numbers = given.isEmpty() ? new String[0] : given.split(", ");
    Class<?>[] types = new Class<?>[numbers.length];
    Object[] values = new Object[numbers.length];
    for (int i = 0; i < numbers.length; i++) {
      types[i] = int.class;
      values[i] = Integer.parseInt(numbers[i]);
    }
    return ((Number) BikeTown.class.getMethod(name, types).invoke(town, values)).longValue();
  }

  private static long due(String answer) throws Exception {
    return Character.isLetter(answer.charAt(0)) ? BikeTown.class.getField(answer).getInt(null) : Long.parseLong(answer);
  }

  private static void names(String page) {
    for (Method call : BikeTown.class.getDeclaredMethods()) {
      if (Modifier.isPublic(call.getModifiers())) isNamed(page, call.getName());
    }
    for (String constant : new String[] {"NONE", "BAD", "NO", "FULL"}) isNamed(page, constant);
  }

  private static void isNamed(String page, String name) {
    Due.is("README: names " + name, page.contains("`" + name + "`") ? 1 : 0, 1);
  }
}
