/** Promises 13 to 17: say, hush, fault, rule, off; and what rules do in a minute. */
public final class RuleTest {
  private static final int PLUS = 10, MINUS = 11, LESS = 12, IS = 13, MORE = 14, OPENS = 15, CLOSES = 16;
  private static final int AND = 17, OR = 18, NOT = 19, THEN = 20, BIKES = 21, FREE = 22, PRICE = 23, MINUTE = 24;
  private static final int HOUR = 25, POST = 26, WAITING = 27, CLOSE = 28, OPEN = 29, FIX = 30;

  public static void main(String[] args) {
    sayAndHush();
    faults();
    rule();
    off();
    tests();
    units();
    prices();
    closing();
    order();
    fixing();
    Due.end();
  }

  private static void sayAndHush() {
    BikeTown x = new BikeTown();
    Due.is("nothing said", x.hush(), 0);
    Due.is("symbol -1", x.say(-1), -2);
    Due.is("symbol 31", x.say(31), -2);
    Due.is("0", x.say(0), 1);
    Due.is("30", x.say(30), 2);
    for (int i = 3; i <= 40; i++) Due.is("say " + i, x.say(NOT), i);
    Due.is("41st", x.say(1), -4);
    Due.is("41st, bad", x.say(31), -2);
    Due.is("symbols", x.count(9), 40);
    Due.is("hush", x.hush(), 40);
    Due.is("symbols then", x.count(9), 0);
    Due.is("hush again", x.hush(), 0);
  }

  private static void fault(int due, int... symbols) {
    BikeTown x = new BikeTown();
    Due.text(x, symbols);
    Due.is("fault of " + java.util.Arrays.toString(symbols), x.fault(), due);
    Due.is("rule of " + java.util.Arrays.toString(symbols), x.rule(), due == -1 ? 0 : -3);
    Due.is("rules", x.count(3), due == -1 ? 1 : 0);
  }

  private static void faults() {
    fault(0);
    fault(-1, BIKES, LESS, 1, THEN, CLOSE);
    fault(-1, 9, 9, 9, MORE, 0, 0, 0, THEN, PRICE, IS, 9, 9, 9);
    fault(4, BIKES, LESS, 1, THEN);
    fault(5, BIKES, LESS, 1, THEN, PRICE);
    fault(6, BIKES, LESS, 1, THEN, PRICE, IS);
    fault(8, BIKES, LESS, 1, THEN, PRICE, IS, 5, PLUS);
    fault(3, BIKES, LESS, 1);
    fault(1, NOT);
    fault(1, OPENS);
    fault(0, PLUS);
    fault(0, CLOSE);
    fault(0, AND);
    fault(0, CLOSES);
    fault(0, IS);
    fault(1, BIKES, BIKES);
    fault(1, 5, BIKES);
    fault(1, BIKES, 5);
    fault(1, BIKES, THEN);
    fault(1, BIKES, NOT);
    fault(2, BIKES, LESS, MORE);
    fault(2, BIKES, LESS, NOT);
    fault(2, BIKES, LESS, OPENS);
    fault(3, BIKES, LESS, 1, LESS);
    fault(3, BIKES, LESS, 1, CLOSES);
    fault(3, BIKES, LESS, 1, OPENS);
    fault(3, BIKES, LESS, 1, CLOSE);
    fault(4, BIKES, LESS, 1, AND, OR);
    fault(4, BIKES, LESS, 1, OR, THEN);
    fault(3, 1, 2, 3, 4);
    fault(8, 1, 2, 3, PLUS, 1, 2, 3, IS, THEN);
    fault(7, BIKES, LESS, 1, THEN, PRICE, IS, 1, BIKES);
    fault(9, BIKES, LESS, 1, THEN, PRICE, IS, 1, 2, 3, 4);
    fault(7, BIKES, LESS, 1, THEN, PRICE, IS, 1, THEN);
    fault(5, BIKES, LESS, 1, THEN, PRICE, PLUS);
    fault(4, BIKES, LESS, 1, THEN, BIKES);
    fault(4, BIKES, LESS, 1, THEN, NOT);
    fault(5, BIKES, LESS, 1, THEN, FIX, THEN);
    fault(5, BIKES, LESS, 1, THEN, OPEN, 1);
    fault(5, BIKES, LESS, 1, THEN, CLOSE, PRICE);
    fault(2, OPENS, BIKES, CLOSES);
    fault(4, OPENS, BIKES, IS, 1, THEN);
    fault(5, OPENS, BIKES, IS, 1, CLOSES, CLOSES);
    fault(5, OPENS, BIKES, IS, 1, CLOSES, IS);
    fault(5, OPENS, BIKES, IS, 1, CLOSES, PLUS);
    fault(5, OPENS, BIKES, IS, 1, CLOSES, 1);
    fault(-1, OPENS, BIKES, IS, 1, CLOSES, THEN, FIX);
    fault(-1, NOT, NOT, OPENS, NOT, BIKES, IS, 1, CLOSES, AND, 1, IS, 1, THEN, FIX);
    fault(8, OPENS, OPENS, OPENS, OPENS, OPENS, OPENS, OPENS, OPENS, OPENS);
    fault(-1, OPENS, OPENS, OPENS, OPENS, OPENS, OPENS, OPENS, OPENS, 1, IS, 1,
        CLOSES, CLOSES, CLOSES, CLOSES, CLOSES, CLOSES, CLOSES, CLOSES, THEN, OPEN);
    // The 9th that is open, not the 9th of all.
    fault(-1, OPENS, 1, IS, 1, CLOSES, AND, OPENS, OPENS, OPENS, OPENS, OPENS, OPENS, OPENS, OPENS, 1, IS, 1,
        CLOSES, CLOSES, CLOSES, CLOSES, CLOSES, CLOSES, CLOSES, CLOSES, THEN, OPEN);
    int[] nots = new int[40];
    java.util.Arrays.fill(nots, NOT);
    fault(40, nots);
    nots[35] = nots[37] = 1;
    nots[36] = IS;
    nots[38] = THEN;
    nots[39] = FIX;
    fault(-1, nots);
  }

  private static void rule() {
    BikeTown x = new BikeTown();
    x.post(0, 0, 5);
    Due.is("no text", x.rule(), -3);
    Due.text(x, 1, IS, 1, THEN, CLOSE);
    for (int i = 0; i < 10; i++) Due.is("rule " + i, x.rule(), i);
    Due.is("the text stays", x.count(9), 5);
    Due.is("11th", x.rule(), -4);
    x.say(1);
    Due.is("11th, a fault", x.rule(), -3);
    Due.is("rules", x.count(3), 10);
    x.hush();
    x.step(1);
    Due.is("a rule keeps its text", x.postAt(0, 4), 0);
    x.endDay(0);
    Due.is("rules stay", x.count(3), 10);
  }

  private static void off() {
    BikeTown x = new BikeTown();
    x.post(0, 0, 5);
    Due.is("none", x.off(0, true), -2);
    Due.rule(x, 1, IS, 1, THEN, PRICE, IS, PRICE, PLUS, 1);
    Due.is("rule -1", x.off(-1, true), -2);
    Due.is("rule 1", x.off(1, true), -2);
    Due.is("not off", x.off(0, false), -3);
    x.step(2);
    Due.is("acts", x.postAt(0, 3), 12);
    Due.is("off", x.off(0, true), 1);
    Due.is("it is off", x.off(0, true), -3);
    x.step(2);
    Due.is("does not act", x.postAt(0, 3), 12);
    Due.is("on", x.off(0, false), 1);
    x.step(2);
    Due.is("acts again", x.postAt(0, 3), 14);
    Due.is("not by hand", x.count(8), 0);
  }

  /** Whether a test holds at a post with 2 bikes, one of them faulty, and 3 racks free, in minute 0. */
  private static void test(boolean due, int... test) {
    BikeTown x = new BikeTown();
    x.post(0, 0, 5);
    x.bike(0);
    x.bike(0);
    x.faulty(1);
    int[] symbols = java.util.Arrays.copyOf(test, test.length + 2);
    symbols[test.length] = THEN;
    symbols[test.length + 1] = CLOSE;
    Due.is("a rule", Due.rule(x, symbols), 0);
    x.step(1);
    Due.is("holds " + java.util.Arrays.toString(test), 1 - x.postAt(0, 4), due ? 1 : 0);
  }

  private static void tests() {
    test(true, BIKES, IS, 1);
    test(false, BIKES, IS, 2);
    test(true, FREE, IS, 3);
    test(true, PRICE, IS, 1, 0);
    test(true, 1, LESS, 2);
    test(false, 2, LESS, 2);
    test(false, 3, LESS, 2);
    test(true, 3, MORE, 2);
    test(false, 2, MORE, 2);
    test(true, 2, 0, 0, MORE, 1, 9, 9);
    test(true, 5, MINUS, 3, MINUS, 1, IS, 1);
    test(true, 5, MINUS, 3, PLUS, 1, IS, 3);
    test(true, 1, MINUS, 5, LESS, 0, MINUS, 3);
    test(true, 0, 0, 7, IS, 7);
    test(false, NOT, 1, IS, 1);
    test(true, NOT, 1, IS, 2);
    test(true, NOT, NOT, 1, IS, 1);
    test(true, 1, IS, 1, OR, 1, IS, 1, AND, 1, IS, 2);
    test(true, 1, IS, 2, AND, 1, IS, 1, OR, 1, IS, 1);
    test(false, 1, IS, 2, AND, 1, IS, 1, OR, 1, IS, 3);
    test(false, OPENS, 1, IS, 1, OR, 1, IS, 1, CLOSES, AND, 1, IS, 2);
    test(true, OPENS, 1, IS, 2, OR, 1, IS, 1, CLOSES, AND, 1, IS, 1);
    test(false, NOT, OPENS, 1, IS, 2, OR, 1, IS, 1, CLOSES);
    test(true, NOT, OPENS, 1, IS, 2, AND, 1, IS, 1, CLOSES);
    test(true, NOT, 1, IS, 2, AND, 1, IS, 1);
    test(false, NOT, 1, IS, 1, AND, 1, IS, 1);
    test(true, NOT, 1, IS, 1, OR, 1, IS, 1);
    test(true, NOT, OPENS, NOT, OPENS, 1, IS, 1, CLOSES, CLOSES);
    test(false, 1, IS, 1, AND, NOT, OPENS, 1, IS, 1, CLOSES);
    test(false, 1, IS, 2, AND, OPENS, 1, IS, 1, CLOSES);
    test(false, NOT, OPENS, OPENS, OPENS, OPENS, OPENS, OPENS, OPENS, OPENS, 1, IS, 2, OR, 1, IS, 1,
        CLOSES, CLOSES, CLOSES, CLOSES, CLOSES, CLOSES, CLOSES, CLOSES);
    test(true, OPENS, OPENS, OPENS, OPENS, OPENS, OPENS, OPENS, NOT, OPENS, 1, IS, 2, OR, 1, IS, 3,
        CLOSES, CLOSES, CLOSES, CLOSES, CLOSES, CLOSES, CLOSES, CLOSES);
    test(true, NOT, OPENS, OPENS, 1, IS, 2, CLOSES, AND, OPENS, 1, IS, 1, CLOSES, CLOSES);
    test(false, OPENS, 1, IS, 2, OR, 1, IS, 1, CLOSES, AND, OPENS, 1, IS, 2, OR, 1, IS, 3, CLOSES);
  }

  private static void units() {
    BikeTown x = new BikeTown();
    x.post(0, 0, 5);
    x.post(0, 50, 5);
    x.rider(0, 1, 0, 0);
    x.rider(0, 1, 0, 0);
    Due.rule(x, POST, IS, 0, THEN, PRICE, IS, MINUTE, MINUS, HOUR);
    Due.rule(x, POST, IS, 1, THEN, PRICE, IS, WAITING);
    x.step(1);
    Due.is("none waits as minute 0 begins", x.postAt(1, 3), 0);
    x.step(1);
    Due.is("two wait as minute 1 begins", x.postAt(1, 3), 2);
    x.step(4);
    Due.is("as minute 5 begins, in which they are lost", x.postAt(1, 3), 2);
    x.step(1);
    Due.is("then none", x.postAt(1, 3), 0);
    x.step(54);
    Due.is("minute 60", x.postAt(0, 3), 59);
    Due.is("another post's waiting", x.postAt(1, 3), 0);
  }

  private static void prices() {
    BikeTown x = new BikeTown();
    x.post(0, 0, 5);
    x.post(0, 0, 5);
    x.post(0, 0, 5);
    Due.rule(x, POST, IS, 0, THEN, PRICE, IS, 9, 9, 9);
    Due.rule(x, POST, IS, 1, THEN, PRICE, IS, 1, MINUS, 9);
    Due.rule(x, POST, IS, 2, THEN, PRICE, IS, PRICE, PLUS, PRICE, MINUS, 1);
    x.step(2);
    Due.is("brought to 99", x.postAt(0, 3), 99);
    Due.is("brought to 0", x.postAt(1, 3), 0);
    Due.is("of the price", x.postAt(2, 3), 37);
    Due.is("no line", x.count(5), 0);
  }

  private static void closing() {
    BikeTown x = new BikeTown();
    x.post(0, 0, 5);
    Due.rule(x, MINUTE, LESS, 3, THEN, CLOSE);
    Due.rule(x, MINUTE, MORE, 4, THEN, OPEN);
    x.step(5);
    Due.is("closed", x.postAt(0, 4), 0);
    Due.is("once", x.count(5), 1);
    Due.is("line", x.log(0, 0), 11);
    x.step(5);
    Due.is("opened", x.postAt(0, 4), 1);
    Due.is("once", x.count(5), 2);
    Due.is("line", x.log(1, 0), 12);
    Due.is("its minute", x.log(1, 1), 5);
  }

  /** Post by post, in each rule by rule: later rules see what earlier ones did. */
  private static void order() {
    BikeTown x = new BikeTown();
    x.post(0, 0, 5);
    x.post(0, 0, 5);
    Due.rule(x, PRICE, IS, 1, 0, THEN, PRICE, IS, 1, 1);
    Due.rule(x, PRICE, IS, 1, 1, THEN, PRICE, IS, 1, 2);
    Due.rule(x, 1, IS, 1, THEN, CLOSE);
    Due.rule(x, 1, IS, 1, THEN, OPEN);
    x.step(1);
    Due.is("both acted", x.postAt(0, 3), 12);
    int[] posts = {0, 0, 1, 1};
    for (int i = 0; i < 4; i++) {
      Due.is("line " + i, x.log(i, 0), i % 2 == 0 ? 11 : 12);
      Due.is("post of line " + i, x.log(i, 2), posts[i]);
    }
  }

  private static void fixing() {
    BikeTown x = new BikeTown();
    x.post(0, 0, 3);
    x.post(0, 0, 3);
    for (int b = 0; b < 3; b++) x.bike(0);
    x.shop(2, 500);
    Due.rule(x, 1, IS, 1, THEN, FIX);
    x.step(1);
    Due.is("none is faulty", x.count(5), 0);
    x.faulty(2);
    x.faulty(1);
    x.step(1);
    Due.is("the first one by number", x.bikeAt(1, 0), 3);
    Due.is("from where", x.bikeAt(1, 1), 0);
    Due.is("still faulty there", x.bikeAt(1, 3), 1);
    Due.is("one a minute", x.bikeAt(2, 0), 0);
    Due.is("line", x.log(0, 0), 7);
    Due.is("its minute", x.log(0, 1), 1);
    Due.is("its bike", x.log(0, 4), 1);
    Due.is("its rider", x.log(0, 3), -1);
    x.step(1);
    Due.is("then the other", x.bikeAt(2, 0), 3);
    x.rider(3, 0, 1, 0);
    x.rider(3, 0, 1, 0);
    x.step(1);
    Due.is("mended in minute 3, ahead of riders", x.riderAt(1, 1), 1);
  }
}
