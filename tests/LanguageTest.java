import java.lang.reflect.Constructor;
import java.lang.reflect.Field;
import java.lang.reflect.Method;
import java.lang.reflect.Modifier;
import java.nio.file.Files;
import java.nio.file.Path;
import java.util.ArrayList;
import java.util.List;
import java.util.Set;
import java.util.TreeSet;
import java.util.regex.Matcher;
import java.util.regex.Pattern;

/** Whether the program keeps to what can be seen from outside of ../shared/LANGUAGE.md, and bears the document's face. */
public final class LanguageTest {
  private static final String FACE = "post(int,int,int) bike(int) kind(int,int,int) rider(int,int,int,int) shop(int,int) "
      + "price(int,int) open(int,boolean) faulty(int) steal(int) find(int,int) stop(int,int) say(int) hush() fault() rule() "
      + "off(int,boolean) step(int) endDay(int) bikeAt(int,int) postAt(int,int) riderAt(int,int) van(int) way(int,int) "
      + "log(int,int) asOf(int,int) ends(int,int,int) forecast(int,int,int,int) whatIf(int,int) want(int,int) round() "
      + "roundAt(int) gain(int,int,int,int) still() stillAt(int) answers(int,int) site(int,int) wish(int,int,int) "
      + "sites(int,int) test(int,boolean) line(int,int) count(int) digest()";
  private static int wrong = 0;

  private static void bad(String what) {
    wrong++;
    System.out.println(what);
  }

  public static void main(String[] args) throws Exception {
    face();
    for (Class<?> inside : BikeTown.class.getDeclaredClasses()) inside(inside);
    constants();
    if (BikeTown.class.getDeclaredClasses().length > 11) bad("more than twelve classes");
    String source = Files.readString(Path.of("src/main/java/BikeTown.java"));
    String code = source.replaceAll("(?s)/\\*.*?\\*/", "").replaceAll("//[^\n]*", "");
    words(code);
    methods(code);
    System.out.println(wrong == 0 ? "the program keeps to the rules" : wrong + " breaches");
    if (wrong != 0) System.exit(1);
  }

  private static void face() {
    Class<?> c = BikeTown.class;
    if (c.getModifiers() != (Modifier.PUBLIC | Modifier.FINAL)) bad("the class is not public and final alone");
    Set<String> due = new TreeSet<>(List.of(FACE.split(" "))), is = new TreeSet<>(), names = new TreeSet<>();
    for (Method m : c.getDeclaredMethods()) {
      if (Modifier.isPrivate(m.getModifiers())) continue;
      if (m.getModifiers() != Modifier.PUBLIC) bad("not public alone: " + m);
      List<String> types = new ArrayList<>();
      for (Class<?> type : m.getParameterTypes()) types.add(type.getName());
      is.add(m.getName() + "(" + String.join(",", types) + ")");
      names.add(m.getName());
      if (m.getReturnType() != (m.getName().equals("digest") ? long.class : int.class)) bad("answers another type: " + m);
    }
    if (!is.equals(due)) bad("the face is " + is);
    for (Method m : c.getDeclaredMethods()) {
      if (Modifier.isPrivate(m.getModifiers()) && names.contains(m.getName())) bad("a private method bears a public name: " + m);
    }
    Constructor<?>[] made = c.getDeclaredConstructors();
    if (made.length != 1 || made[0].getModifiers() != Modifier.PUBLIC || made[0].getParameterCount() != 0) bad("constructor");
    Set<String> constants = new TreeSet<>();
    for (Field f : c.getDeclaredFields()) if (!Modifier.isPrivate(f.getModifiers())) constants.add(f.getName());
    if (!constants.equals(Set.of("NONE", "BAD", "NO", "FULL"))) bad("constants " + constants);
    fields(c);
  }

  private static void inside(Class<?> c) {
    if (!Modifier.isStatic(c.getModifiers())) bad("not static: " + c);
    if (Modifier.isPublic(c.getModifiers()) || Modifier.isProtected(c.getModifiers())) bad("too visible: " + c);
    fields(c);
    for (Method m : c.getDeclaredMethods()) {
      if (m.getParameterCount() > 7) bad("more than seven parameters: " + m);
      if (Modifier.isPrivate(m.getModifiers()) && FACE.matches("(.* )?" + m.getName() + "\\(.*")) bad("a public name: " + m);
    }
  }

  private static void constants() throws Exception {
    String[] names = {"NONE", "BAD", "NO", "FULL"};
    for (int i = 0; i < names.length; i++) {
      Field f = BikeTown.class.getField(names[i]);
      if (f.getModifiers() != (Modifier.PUBLIC | Modifier.STATIC | Modifier.FINAL)) bad("not a public constant: " + f);
      if (f.getType() != int.class || f.getInt(null) != -1 - i) bad("another constant than the document's: " + f);
    }
  }

  /** Methods are short; only constructors and fields make objects, so that all calls of a run find room. */
  private static void methods(String code) {
    Matcher m = Pattern.compile("(?ms)^( {4}| {8})(?! |private static final class)([^\n;=]*\\)) \\{\n(.*?)^\\1\\}").matcher(code);
    int seen = 0;
    while (m.find()) {
      seen++;
      if (m.group(3).split("\n").length > 60) bad("a long method: " + m.group(2));
      boolean isConstructor = m.group(2).matches("(public )?[A-Z]\\w*\\(.*");
      if (!isConstructor && m.group(3).matches("(?s).*\\bnew\\b.*")) bad("makes an object: " + m.group(2));
    }
    if (seen < 100) bad("only " + seen + " methods seen");
  }

  private static void fields(Class<?> c) {
    int own = 0;
    for (Field f : c.getDeclaredFields()) {
      if (!Modifier.isStatic(f.getModifiers())) own++;
      else if (!Modifier.isFinal(f.getModifiers())) bad("static and not final: " + f);
    }
    if (own > 20) bad(own + " fields in " + c);
  }

  private static void words(String code) {
    String[] ruled = {"\\bthrow\\b", "\\bthrows\\b", "\\btry\\b", "\\bcatch\\b", "\\bassert\\b", "\\bsynchronized\\b", "->", "::",
        "\\bpackage\\b", "\\bvolatile\\b", "\\bObject\\b", "\\bString\\b", "\\bSystem\\b", "\\binstanceof\\b", "@",
        "\\bExact\\b", "\\bstatic\\s*\\{", "\"", "\\bvar\\b", "\\bfloat\\b", "\\bdouble\\b"};
    for (String word : ruled) {
      Matcher m = Pattern.compile(word).matcher(code);
      if (m.find()) bad("'" + m.group() + "' in the program");
    }
    Matcher m = Pattern.compile("(?m)^import (.*);").matcher(code);
    while (m.find()) if (!m.group(1).equals("java.util.Arrays")) bad("import " + m.group(1));
    m = Pattern.compile("\\bArrays\\.(\\w+)").matcher(code);
    while (m.find()) if (!m.group(1).equals("fill")) bad("Arrays." + m.group(1));
    m = Pattern.compile("\\b(?:Math|Integer)\\.(\\w+)").matcher(code);
    while (m.find()) if (!Set.of("abs", "min", "max", "bitCount").contains(m.group(1))) bad("Math or Integer: " + m.group(1));
  }
}
