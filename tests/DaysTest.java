/**
 * The sentences of section 5 under Terms (log, what if, as of, ends, days) that name a boundary case, one by one, and
 * those of promises 18 to 29.
 */
public final class DaysTest {
  private static final int NONE = -1;

  public static void main(String[] args) {
    allLines();
    lastLines();
    stepsOfADay();
    asOfEdges();
    asOfWithoutLines();
    endsByHours();
    lostInItsMinute();
    mostInOneMinute();
    likeDays();
    twentyDays();
    hoursOfDays();
    postsOfLaterDays();
    dayBeginsAnew();
    toldForAllDays();
    whatIfInMinuteZero();
    whatIfByHandInMinuteZero();
    whatIfByHandNow();
    whatIfCantBeDone();
    whatIfOfTen();
    whatIfOfAWholeDay();
    whatIfByShop();
    Due.end();
  }

  private static BikeTown two() {
    BikeTown x = new BikeTown();
    x.post(0, 0, 3);
    x.post(20, 0, 3);
    x.bike(0);
    x.bike(0);
    return x;
  }

  private static void line(BikeTown x, int i, int... due) {
    for (int w = 0; w < 5; w++) Due.is("line " + i + ", " + w, x.log(i, w), due[w]);
  }

  // ---- the log

  /** Each of the twelve, whole. */
  private static void allLines() {
    BikeTown x = two();
    x.shop(5, 500);
    Due.rule(x, 24, 14, 9, 17, 26, 13, 0, 20, 30);
    x.rider(2, 0, 1, 0);
    x.rider(2, 1, 0, 1);
    x.kind(1, 9, 5);
    x.rider(2, 1, 0, 2);
    x.kind(2, 20, 0);
    x.step(3);
    line(x, 0, 1, 2, 0, 0, 0);
    line(x, 1, 3, 2, 1, 1, NONE);
    line(x, 2, 4, 2, 1, 2, NONE);
    x.step(4);
    line(x, 3, 2, 5, 1, 0, 0);
    x.stop(0, 1);
    x.stop(0, -1);
    x.step(1);
    line(x, 4, 5, 7, 0, NONE, 1);
    line(x, 5, 6, 7, 0, NONE, 1);
    x.faulty(1);
    Due.is("told faulty: no line", x.count(5), 6);
    x.price(0, 11);
    Due.is("a price: no line", x.count(5), 6);
    x.step(3);
    line(x, 6, 7, 10, 0, NONE, 1);
    x.step(5);
    line(x, 7, 8, 15, 0, NONE, 1);
    x.steal(1);
    line(x, 8, 9, 16, 0, NONE, 1);
    x.find(1, 1);
    line(x, 9, 10, 16, 1, NONE, 1);
    x.open(1, false);
    line(x, 10, 11, 16, 1, NONE, NONE);
    x.open(1, true);
    line(x, 11, 12, 16, 1, NONE, NONE);
    Due.is("twelve", x.count(5), 12);
    for (int w = 0; w < 5; w++) Due.is("no more", x.log(12, w), NONE);
  }

  /** 3999, 4000, and no more; what is counted goes on. */
  private static void lastLines() {
    BikeTown x = two();
    Due.rule(x, 1, 13, 1, 20, 28);
    Due.rule(x, 1, 13, 1, 20, 29);
    x.open(0, false);
    x.open(0, true);
    x.open(0, false);
    x.step(999);
    Due.is("3 by hand, 3 in the first minute at post 0 closed already, then 4", x.count(5), 3 + 4 * 999 - 1);
    Due.is("line 3997", x.log(3997, 0), 12);
    Due.is("line 3998 is not there", x.log(3998, 0), NONE);
    x.steal(0);
    line(x, 3998, 9, 999, 0, NONE, 0);
    x.find(0, 1);
    line(x, 3999, 10, 999, 1, NONE, 0);
    Due.is("4000", x.count(5), 4000);
    x.steal(1);
    Due.is("no line more", x.count(5), 4000);
    Due.is("but it is gone", x.bikeAt(1, 0), 4);
    x.step(1);
    Due.is("as of goes by the lines", x.asOf(0, 1000), 1);
    Due.is("as of goes by the lines", x.asOf(1, 1000), 1);
    Due.is("line 4000", x.log(4000, 0), NONE);
  }

  // ---- minutes

  private static void stepsOfADay() {
    BikeTown x = new BikeTown();
    Due.is("1", x.step(1), 1);
    Due.is("1438", x.step(1438), 1438);
    Due.is("the last but one is gone", x.count(4), 1439);
    Due.is("up to the end", x.step(2), 1);
    Due.is("the end", x.count(4), 1440);
    Due.is("none left", x.step(1), BikeTown.NO);
    Due.is("the day ends", x.endDay(6), 1);
    Due.is("all", x.step(1440), 1440);
    Due.is("the end", x.count(4), 1440);
  }

  // ---- as of

  private static void asOfEdges() {
    BikeTown x = two();
    x.faulty(0);
    x.steal(1);
    Due.is("faulty ones, too; ahead of all", x.asOf(0, 0), 2);
    Due.is("minute 1 is to come", x.asOf(0, 1), BikeTown.BAD);
    x.step(1);
    Due.is("lines of minutes below 0", x.asOf(0, 0), 2);
    Due.is("of minute 0", x.asOf(0, 1), 1);
    x.find(1, 1);
    Due.is("a line of this very minute", x.asOf(1, 1), 0);
    x.step(1439);
    Due.is("the next minute", x.asOf(1, 2), 1);
    Due.is("the day's end", x.asOf(1, 1440), 1);
    Due.is("behind it", x.asOf(1, 1441), BikeTown.BAD);
    x.endDay(0);
    Due.is("a new day", x.asOf(0, 0), 2);
    Due.is("and the other", x.asOf(1, 0), 0);
    Due.is("no minute of it", x.asOf(1, 1), BikeTown.BAD);
  }

  /** In the van, ridden and in the shop it is at no post. */
  private static void asOfWithoutLines() {
    BikeTown x = new BikeTown();
    x.post(0, 0, 1);
    x.step(700);
    for (int m = 0; m <= 700; m += 350) Due.is("none in minute " + m, x.asOf(0, m), 0);
  }

  // ---- ends of wishes

  private static void endsByHours() {
    BikeTown x = two();
    x.kind(0, 20, 0);
    x.rider(59, 1, 0, 0);
    x.rider(60, 1, 0, 0);
    x.rider(119, 1, 0, 0);
    x.rider(120, 1, 0, 0);
    x.rider(1439, 1, 0, 0);
    x.step(60);
    Due.is("minute 59 was gone through", x.ends(1, 0, 0), 1);
    Due.is("60 minutes, 1 each", x.ends(1, 0, 1), 61);
    Due.is("minute 60 not yet", x.ends(1, 1, 0), 0);
    Due.is("no minute of it", x.ends(1, 1, 1), 0);
    x.step(1);
    Due.is("minute 60", x.ends(1, 1, 0), 1);
    Due.is("one minute of it", x.ends(1, 1, 1), 2);
    x.step(1379);
    Due.is("minutes 60 and 119", x.ends(1, 1, 0), 2);
    Due.is("minute 120", x.ends(1, 2, 0), 1);
    Due.is("the last minute", x.ends(1, 23, 0), 1);
    Due.is("the last hour", x.ends(1, 23, 1), 61);
    Due.is("never empty, no wish", x.ends(0, 23, 1), 0);
  }

  /** Who waits from one hour into the next is lost, or rides, in the hour of that minute. */
  private static void lostInItsMinute() {
    BikeTown x = two();
    x.rider(58, 1, 0, 0);
    x.rider(59, 1, 0, 1);
    x.kind(1, 20, 60);
    x.step(62);
    x.steal(0);
    x.find(0, 1);
    x.step(10);
    Due.is("the first hour", x.ends(1, 0, 0), 0);
    Due.is("the second: one rides", x.ends(1, 1, 0), 1);
    Due.is("by number: the first", x.riderAt(0, 2), 62);
    x.step(60);
    Due.is("and in hour 1 the other is lost", x.ends(1, 1, 0), 2);
    Due.is("not in hour 2", x.ends(1, 2, 0), 0);
  }

  private static void mostInOneMinute() {
    BikeTown x = new BikeTown();
    x.post(0, 0, 5);
    x.post(20, 0, 5);
    for (int b = 0; b < 5; b++) x.bike(0);
    int[] minutes = {3, 3, 4, 61, 62};
    for (int m : minutes) x.rider(m, 0, 1, 0);
    x.step(120);
    Due.is("3 taken", x.ends(0, 0, 0), 3);
    Due.is("never empty", x.ends(0, 0, 1), 3);
    Due.is("58 empty minutes, one ride at once", x.ends(0, 1, 1), 2 + 58);
    x.endDay(0);
    x.rider(3, 0, 1, 0);
    x.rider(4, 0, 1, 0);
    x.step(60);
    Due.is("5 taken", x.ends(0, 0, 0), 5);
    Due.is("56 empty minutes, three at once", x.ends(0, 0, 1), 5 + 56 * 3);
    Due.is("at the other: minutes 0 to 5, none taken", x.ends(1, 0, 1), 6);
  }

  // ---- days

  private static void endAfter(BikeTown x, int minutes, int weekday) {
    x.step(minutes);
    Due.is("a day is kept", x.endDay(weekday) > 0 ? 1 : 0, 1);
  }

  /** With none, one and two of a weekday. */
  private static void likeDays() {
    BikeTown x = two();
    x.rider(0, 0, 1, 0);
    for (int d = 0; d < 7; d++) {
      Due.is("no day, sum of weekday " + d, x.forecast(d, 0, 0, 0), 0);
      Due.is("no day, days of weekday " + d, x.forecast(d, 0, 0, 1), 0);
    }
    endAfter(x, 1, 6);
    for (int d = 0; d < 7; d++) Due.is("one day, for all", x.forecast(d, 0, 0, 1), 1);
    endAfter(x, 1, 6);
    Due.is("two of weekday 6", x.forecast(6, 0, 0, 1), 2);
    Due.is("their rides", x.forecast(6, 0, 0, 0), 2);
    Due.is("none of weekday 0: all", x.forecast(0, 0, 0, 1), 2);
    endAfter(x, 1, 0);
    Due.is("still two of weekday 6", x.forecast(6, 0, 0, 1), 2);
    Due.is("one of weekday 0: all", x.forecast(0, 0, 0, 1), 3);
    Due.is("all their rides", x.forecast(0, 0, 0, 0), 3);
    x.rider(0, 0, 1, 0);
    endAfter(x, 1, 0);
    Due.is("two of weekday 0", x.forecast(0, 0, 0, 1), 2);
    Due.is("1 and 2 rides", x.forecast(0, 0, 0, 0), 3);
    endAfter(x, 1, 6);
    Due.is("three of weekday 6", x.forecast(6, 0, 0, 1), 3);
    Due.is("1, 1 and 2 rides", x.forecast(6, 0, 0, 0), 4);
    Due.is("all five for others", x.forecast(3, 0, 0, 1), 5);
    Due.is("1, 1, 1, 2, 2", x.forecast(3, 0, 0, 0), 7);
  }

  private static void twentyDays() {
    BikeTown x = two();
    x.rider(0, 0, 1, 0);
    for (int d = 1; d <= 20; d++) {
      x.step(1);
      Due.is("day " + d, x.endDay(d == 20 ? 1 : 0), d);
    }
    x.step(1);
    Due.is("the 21st", x.endDay(0), BikeTown.FULL);
    Due.is("19 of weekday 0", x.forecast(0, 0, 0, 0), 19);
    Due.is("one of weekday 1: all", x.forecast(1, 0, 0, 0), 20);
    Due.is("days", x.forecast(1, 0, 0, 1), 20);
    Due.is("minutes go on", x.step(1440), 1439);
    Due.is("the 21st at the day's end", x.endDay(0), BikeTown.FULL);
    Due.is("there it stays", x.step(1), BikeTown.NO);
  }

  private static void hoursOfDays() {
    BikeTown x = two();
    int[] minutes = {0, 59, 60, 1379, 1380, 1439};
    for (int m : minutes) x.rider(m, 0, 1, m == 1379 ? 1 : 0);
    x.kind(1, 0, 5);
    x.rider(3, 1, 0, 0);
    x.rider(100, 1, 0, 0);
    x.rider(200, 1, 0, 0);
    x.rider(1381, 1, 0, 2);
    x.kind(2, 20, 60);
    endAfter(x, 1440, 4);
    int[] hours = {0, 1, 2, 22, 23};
    int[] taken = {2, 1, 0, 0, 2};
    for (int i = 0; i < hours.length; i++) Due.is("hour " + hours[i], x.forecast(4, 0, hours[i], 0), taken[i]);
    Due.is("the other's hour 0", x.forecast(4, 1, 0, 0), 1);
    Due.is("the other's hour 3", x.forecast(4, 1, 3, 0), 1);
    Due.is("the other's hour 23", x.forecast(4, 1, 23, 0), 1);
  }

  /** A post that is told on a later day had no rides before. */
  private static void postsOfLaterDays() {
    BikeTown x = two();
    x.rider(0, 0, 1, 0);
    endAfter(x, 10, 0);
    Due.is("a post", x.post(20, 20, 2), 2);
    Due.is("its bike", x.bike(2), 2);
    Due.is("as of", x.asOf(2, 0), 1);
    Due.is("no ride on the day before", x.forecast(0, 2, 0, 0), 0);
    x.rider(0, 2, 0, 0);
    endAfter(x, 10, 0);
    Due.is("one since", x.forecast(0, 2, 0, 0), 1);
    Due.is("its bike is home", x.bikeAt(2, 1), 2);
    Due.is("two of the other", x.forecast(0, 0, 0, 0), 2);
  }

  /** Whatever state bikes, riders, posts and the van are in, the day begins as it began. */
  private static void dayBeginsAnew() {
    BikeTown x = new BikeTown();
    x.post(0, 0, 6);
    x.post(20, 0, 6);
    for (int b = 0; b < 6; b++) x.bike(0);
    x.shop(600, 3);
    Due.rule(x, 26, 13, 0, 20, 30);
    x.rider(0, 0, 1, 0);
    x.rider(3, 0, 1, 0);
    x.rider(4, 1, 0, 1);
    x.kind(1, 20, 60);
    x.rider(4, 0, 1, 2);
    x.kind(2, 5, 5);
    x.rider(4, 1, 0, 1);
    x.rider(4, 1, 0, 3);
    x.kind(3, 20, 0);
    x.faulty(2);
    x.stop(0, 1);
    x.stop(1, -1);
    x.stop(0, 1);
    x.step(1);
    x.steal(4);
    x.price(1, 13);
    x.price(0, 7);
    x.open(1, false);
    x.open(1, true);
    x.step(4);
    Due.is("worn", x.bikeAt(1, 3), 1);
    Due.is("ridden", x.bikeAt(3, 0), 1);
    Due.is("left by the van, then ridden", x.bikeAt(0, 0), 1);
    Due.is("in the shop", x.bikeAt(2, 0), 3);
    Due.is("gone", x.bikeAt(4, 0), 4);
    Due.is("under way", x.van(2), 6);
    Due.is("one waits", x.postAt(1, 5), 1);
    int[] states = {3, 2, 2, 4, 1, 5};
    for (int r = 0; r < 6; r++) Due.is("rider " + r, x.riderAt(r, 0), states[r]);
    x.endDay(3);
    Due.is("days", x.count(6), 1);
    for (int b = 0; b < 6; b++) for (int w = 0; w < 4; w++) Due.is("bike " + b + ", " + w, x.bikeAt(b, w), 0);
    int[][] posts = {{6, 6, 0, 10, 1, 0, 0, 0, 0}, {0, 0, 6, 10, 1, 0, 0, 0, 0}};
    for (int p = 0; p < 2; p++) for (int w = 0; w < 9; w++) Due.is("post " + p + ", " + w, x.postAt(p, w), posts[p][w]);
    for (int r = 0; r < 6; r++) {
      for (int w = 0; w < 6; w++) Due.is("rider " + r + ", " + w, x.riderAt(r, w), w == 0 || w == 5 ? 0 : NONE);
    }
    for (int w = 0; w < 4; w++) Due.is("van " + w, x.van(w), w == 2 ? NONE : 0);
    for (int w : new int[] {4, 5, 7, 8}) Due.is("count " + w, x.count(w), 0);
    Due.is("no line", x.log(0, 0), NONE);
  }

  /** Kinds, the shop, rules (off or not), the text, wants and the rest are not of the day. */
  private static void toldForAllDays() {
    BikeTown x = two();
    x.kind(0, 9, 5);
    x.shop(2, 500);
    Due.rule(x, 1, 13, 1, 20, 28);
    Due.rule(x, 1, 13, 1, 20, 30);
    x.off(0, true);
    x.say(1);
    x.want(1, 5);
    x.gain(1, 4, 4, 44);
    x.site(50, 50);
    x.wish(50, 49, 9);
    x.test(100, false);
    x.rider(0, 0, 1, 0);
    x.step(1);
    x.endDay(0);
    Due.is("rules", x.count(3), 2);
    Due.is("off", x.off(0, true), BikeTown.NO);
    Due.is("the text", x.count(9), 6);
    Due.is("a want", x.want(1, 0), 5);
    Due.is("a gain", x.gain(1, 4, 4, 0), 44);
    Due.is("a site", x.site(0, 0), 1);
    Due.is("a wish", x.sites(1, 1), 9);
    Due.is("a test", x.test(0, true), 2);
    x.faulty(0);
    x.step(1);
    Due.is("the kind", x.riderAt(0, 0), 4);
    Due.is("the rule", x.bikeAt(0, 0), 3);
    x.step(2);
    Due.is("the shop", x.bikeAt(0, 0), 0);
  }

  // ---- what if

  private static void whatIfInMinuteZero() {
    BikeTown x = two();
    x.rider(0, 0, 1, 0);
    x.price(0, 5);
    Due.rule(x, 1, 13, 1, 20, 28);
    for (int w = 0; w < 4; w++) Due.is("no minute was gone through, " + w, x.whatIf(0, w), 0);
    x.step(1);
    Due.is("one minute: rides", x.whatIf(0, 0), 1);
    Due.is("one minute: paid", x.whatIf(0, 2), 5);
    Due.is("one minute: empty", x.whatIf(0, 3), 1);
    Due.is("really: dear", x.riderAt(0, 0), 4);
    x.endDay(0);
    for (int w = 0; w < 4; w++) Due.is("a new day, " + w, x.whatIf(0, w), 0);
  }

  private static void whatIfByHandInMinuteZero() {
    BikeTown x = two();
    Due.rule(x, 1, 13, 2, 20, 28);
    x.steal(0);
    x.rider(0, 0, 1, 0);
    x.rider(0, 0, 1, 0);
    x.step(1);
    Due.is("gone ahead of minute 0", x.whatIf(0, 0), 1);
    Due.is("empty: both", x.whatIf(0, 3), 2);
  }

  /** What is done at THE MINUTE has no minute yet. */
  private static void whatIfByHandNow() {
    BikeTown x = two();
    Due.rule(x, 1, 13, 2, 20, 28);
    x.rider(3, 0, 1, 0);
    x.step(3);
    x.steal(0);
    x.steal(1);
    Due.is("three minutes of post 1", x.whatIf(0, 3), 3);
    x.step(1);
    Due.is("the fourth, of both", x.whatIf(0, 3), 5);
    Due.is("he waits", x.whatIf(0, 0), 0);
    x.find(0, 0);
    Due.is("still", x.whatIf(0, 0), 0);
    x.step(1);
    Due.is("rides", x.whatIf(0, 0), 1);
  }

  /** Rule 0 keeps rider 0 from riding in minute 0; without it his bike is under way till minute 3. */
  private static BikeTown keptFromRiding(int racks) {
    BikeTown x = new BikeTown();
    x.post(0, 0, 3);
    x.post(20, 0, racks);
    x.bike(0);
    for (int k = 0; k < 4; k++) x.kind(k, 20, 0);
    Due.rule(x, 24, 13, 0, 20, 23, 13, 9, 9);
    Due.rule(x, 24, 13, 1, 20, 23, 13, 1, 0);
    x.rider(0, 0, 1, 0);
    return x;
  }

  /** Each thing by hand that can't be done then: no bike there, not gone, no rack free, open or closed already. */
  private static void whatIfCantBeDone() {
    BikeTown x = keptFromRiding(3);
    x.rider(3, 1, 0, 0);
    x.step(1);
    Due.is("told faulty", x.faulty(0), 1);
    x.step(6);
    Due.is("really none rides", x.postAt(0, 6) + x.postAt(1, 6), 0);
    Due.is("one that is ridden is not told faulty", x.whatIf(0, 0), 2);
    BikeTown y = keptFromRiding(3);
    y.rider(3, 1, 0, 0);
    y.rider(2, 1, 0, 0);
    y.step(1);
    Due.is("gone", y.steal(0), 1);
    y.step(1);
    Due.is("found", y.find(0, 1), 1);
    y.step(6);
    Due.is("really it is ridden in minute 2", y.riderAt(2, 0), 3);
    Due.is("neither gone nor found: ridden in minutes 0 and 3", y.whatIf(0, 0), 2);
    Due.is("the rider of minute 2 is lost", y.whatIf(0, 1), 1);
    Due.is("empty: post 0 till minute 5, post 1 always", y.whatIf(0, 3), 14);
    BikeTown z = keptFromRiding(1);
    z.bike(0);
    z.steal(1);
    z.rider(4, 1, 0, 0);
    z.rider(4, 1, 0, 0);
    z.step(4);
    Due.is("really a rack is free", z.find(1, 1), 1);
    z.step(1);
    Due.is("what if not: one bike is there", z.whatIf(0, 0), 2);
    Due.is("for two riders", z.whatIf(0, 1), 1);
    opensAndCloses();
  }

  private static void opensAndCloses() {
    BikeTown x = two();
    x.kind(0, 20, 0);
    Due.rule(x, 24, 13, 2, 20, 28);
    x.step(3);
    Due.is("opened", x.open(0, true), 1);
    x.step(1);
    Due.is("closed", x.open(0, false), 1);
    x.step(1);
    Due.is("opened again", x.open(0, true), 1);
    x.rider(4, 1, 0, 0);
    x.rider(5, 0, 1, 0);
    x.step(1);
    Due.is("the first opening can't be done, the rest can", x.whatIf(0, 0), 1);
    BikeTown y = two();
    y.kind(0, 20, 0);
    Due.rule(y, 24, 13, 2, 20, 29);
    Due.rule(y, 24, 13, 4, 20, 29);
    y.off(1, true);
    y.open(0, false);
    y.step(3);
    Due.is("closed behind the rule", y.open(0, false), 1);
    y.rider(3, 0, 1, 0);
    y.rider(4, 0, 1, 0);
    y.step(2);
    Due.is("really two are dear", y.postAt(0, 7), 2);
    Due.is("closing what is closed can't be done; it stays so", y.whatIf(0, 1), 2);
    Due.is("a rule more opens it", y.whatIf(1, 1), 1);
  }

  /** Off if it is not, and not if it is; the others as they are. */
  private static void whatIfOfTen() {
    BikeTown x = two();
    for (int i = 0; i < 10; i++) Due.rule(x, 24, 13, 0, 17, 26, 13, 0, 20, 23, 13, 23, 10, i);
    x.off(9, true);
    x.kind(0, 99, 5);
    x.rider(0, 0, 1, 0);
    x.step(1);
    Due.is("really paid", x.count(7), 10 + 36);
    for (int i = 0; i < 10; i++) Due.is("what if rule " + i, x.whatIf(i, 2), i == 9 ? 55 : 46 - i);
    Due.is("behind the last", x.whatIf(10, 2), BikeTown.BAD);
  }

  private static void whatIfOfAWholeDay() {
    BikeTown x = two();
    x.rider(1439, 0, 1, 0);
    Due.rule(x, 24, 13, 1, 4, 3, 10, 9, 9, 9, 10, 2, 9, 7, 20, 28);
    x.step(1440);
    Due.is("lost in the last minute", x.postAt(0, 7), 1);
    Due.is("what if not", x.whatIf(0, 0), 1);
    Due.is("and lost", x.whatIf(0, 1), 0);
    Due.is("all minutes of post 1", x.whatIf(0, 3), 1440);
  }

  /** By mend and worn as they are now, though the day was gone through with others. */
  private static void whatIfByShop() {
    BikeTown x = two();
    x.shop(3, 500);
    Due.rule(x, 1, 13, 1, 20, 30);
    Due.rule(x, 1, 13, 2, 20, 28);
    x.steal(1);
    x.faulty(0);
    x.step(10);
    Due.is("empty in minutes 0 to 2", x.postAt(0, 8), 3);
    Due.is("what if, the same", x.whatIf(1, 3), 13);
    x.shop(7, 500);
    Due.is("what if it takes 7", x.whatIf(1, 3), 17);
    Due.is("what if it is not fixed", x.whatIf(0, 3), 20);
  }
}
