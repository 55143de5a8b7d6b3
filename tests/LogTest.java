/** Promises 25 to 29: log, asOf, ends, forecast, whatIf. */
public final class LogTest {
  public static void main(String[] args) {
    log();
    fullLog();
    asOf();
    ends();
    endsOfLaterHours();
    forecast();
    whatIf();
    whatIfByHand();
    whatIfOff();
    Due.end();
  }

  private static BikeTown two() {
    BikeTown x = new BikeTown();
    x.post(0, 0, 4);
    x.post(0, 20, 4);
    x.bike(0);
    x.bike(0);
    return x;
  }

  private static void log() {
    BikeTown x = two();
    Due.is("i -1", x.log(-1, 0), -2);
    Due.is("what -1", x.log(0, -1), -2);
    Due.is("what 5", x.log(0, 5), -2);
    Due.is("what 5 of no line", x.log(9, 5), -2);
    Due.is("no line", x.log(0, 0), -1);
    x.rider(1, 0, 1, 0);
    x.step(5);
    int[][] due = {{1, 1, 0, 0, 0}, {2, 4, 1, 0, 0}};
    for (int i = 0; i < 2; i++) for (int w = 0; w < 5; w++) Due.is("line " + i + " " + w, x.log(i, w), due[i][w]);
    Due.is("no more", x.log(2, 0), -1);
    Due.is("far", x.log(Integer.MAX_VALUE, 0), -1);
    Due.is("lines", x.count(5), 2);
    x.endDay(0);
    Due.is("empty", x.log(0, 0), -1);
  }

  /** Rules that close and open give two lines a minute and post. */
  private static void fullLog() {
    BikeTown x = new BikeTown();
    x.post(0, 0, 4);
    x.post(0, 20, 4);
    x.bike(0);
    Due.rule(x, 1, 13, 1, 20, 28);
    Due.rule(x, 1, 13, 1, 20, 29);
    x.step(999);
    Due.is("lines", x.count(5), 3996);
    x.rider(999, 0, 1, 0);
    x.step(1);
    Due.is("4000 at most", x.count(5), 4000);
    Due.is("the last line", x.log(3999, 0), 12);
    Due.is("its minute", x.log(3999, 1), 999);
    Due.is("its post", x.log(3999, 2), 1);
    Due.is("no more", x.log(4000, 0), -1);
    Due.is("the first line", x.log(0, 1), 0);
    Due.is("counted though not told", x.postAt(0, 6), 1);
    Due.is("ends", x.ends(0, 16, 0), 1);
    Due.is("as of, by the lines", x.asOf(0, 1000), 1);
    Due.is("but the bike is away", x.postAt(0, 0), 0);
    x.steal(0);
    x.open(0, false);
    Due.is("nothing by hand either", x.count(5), 4000);
    Due.is("the day ends", x.endDay(0), 1);
    Due.is("its ride is kept", x.forecast(0, 0, 16, 0), 1);
    x.step(1);
    Due.is("a new log", x.count(5), 4);
  }

  private static void asOf() {
    BikeTown x = two();
    x.rider(1, 0, 1, 0);
    Due.is("post -1", x.asOf(-1, 0), -2);
    Due.is("post 2", x.asOf(2, 0), -2);
    Due.is("minute -1", x.asOf(0, -1), -2);
    Due.is("minute 1 of 0", x.asOf(0, 1), -2);
    Due.is("as the day began", x.asOf(0, 0), 2);
    x.steal(1);
    Due.is("by hand in minute 0", x.asOf(0, 0), 2);
    x.step(6);
    Due.is("minute 0", x.asOf(0, 0), 2);
    Due.is("minute 1: the stolen one is gone", x.asOf(0, 1), 1);
    Due.is("minute 2: the ridden one too", x.asOf(0, 2), 0);
    Due.is("the other: minute 4", x.asOf(1, 4), 0);
    Due.is("the other: minute 5", x.asOf(1, 5), 1);
    Due.is("now", x.asOf(1, 6), 1);
    Due.is("later", x.asOf(1, 7), -2);
    x.find(1, 1);
    x.faulty(0);
    x.stop(0, 0);
    x.stop(1, 2);
    x.stop(0, -1);
    Due.is("found now counts for later minutes", x.asOf(1, 6), 1);
    Due.rule(x, 26, 13, 1, 20, 30);
    x.shop(10, 500);
    x.step(1);
    Due.is("found, to the shop", x.asOf(1, 7), 1);
    x.step(3);
    Due.is("the van took it", x.asOf(1, 10), 0);
    x.step(4);
    Due.is("the van left it", x.asOf(0, 13), 1);
    Due.is("not yet then", x.asOf(0, 12), 0);
    x.step(3);
    Due.is("mended", x.asOf(1, 17), 1);
    Due.is("ahead of that", x.asOf(1, 16), 0);
    for (int p = 0; p < 2; p++) Due.is("now at " + p, x.asOf(p, 17), x.postAt(p, 0));
  }

  private static void ends() {
    BikeTown x = two();
    Due.is("post -1", x.ends(-1, 0, 0), -2);
    Due.is("post 2", x.ends(2, 0, 0), -2);
    Due.is("hour -1", x.ends(0, -1, 0), -2);
    Due.is("hour 24", x.ends(0, 24, 0), -2);
    Due.is("what -1", x.ends(0, 0, -1), -2);
    Due.is("what 2", x.ends(0, 0, 2), -2);
    Due.is("nothing yet", x.ends(0, 0, 1), 0);
    x.step(1);
    Due.is("an empty minute at the other, no ride taken: 1", x.ends(1, 0, 1), 1);
    x.rider(2, 0, 1, 0);
    x.rider(2, 0, 1, 0);
    x.rider(3, 0, 1, 0);
    x.step(7);
    Due.is("two rides", x.ends(0, 0, 0), 2);
    Due.is("six empty minutes, two at once", x.ends(0, 0, 1), 14);
    x.step(1);
    Due.is("and a lost one, in minute 8", x.ends(0, 0, 0), 3);
    Due.is("the greatest", x.ends(0, 0, 1), 17);
    Due.is("another hour", x.ends(0, 1, 1), 0);
    x.price(1, 99);
    x.rider(9, 1, 0, 0);
    x.step(1);
    Due.is("lost dear counts, too", x.ends(1, 0, 0), 1);
    Due.is("empty in minutes 0 to 4", x.ends(1, 0, 1), 6);
    x.endDay(0);
    Due.is("counts are empty", x.ends(0, 0, 1), 0);
    x.steal(1);
    x.step(4);
    Due.is("one ride; a minute of two was another day's", x.ends(0, 0, 1), 3);
  }

  private static void endsOfLaterHours() {
    BikeTown x = two();
    x.rider(59, 0, 1, 0);
    x.rider(60, 0, 1, 0);
    x.rider(1439, 0, 1, 0);
    x.rider(1439, 1, 0, 0);
    x.rider(1439, 1, 0, 0);
    x.step(1440);
    Due.is("minute 59", x.ends(0, 0, 0), 1);
    Due.is("minute 60", x.ends(0, 1, 0), 1);
    Due.is("60 empty minutes", x.ends(0, 1, 1), 61);
    Due.is("an hour without rides", x.ends(0, 2, 1), 60);
    Due.is("the last minute, one waits", x.ends(0, 23, 0), 0);
    Due.is("its greatest", x.ends(0, 23, 1), 60);
    Due.is("the last minute of the other", x.ends(1, 23, 0), 2);
    Due.is("one minute empty, two rides in it", x.ends(1, 23, 1), 4);
    x.endDay(0);
    Due.is("forecast of the last hour", x.forecast(0, 1, 23, 0), 2);
  }

  private static void forecast() {
    BikeTown x = two();
    x.rider(70, 0, 1, 0);
    Due.is("weekday -1", x.forecast(-1, 0, 0, 0), -2);
    Due.is("weekday 7", x.forecast(7, 0, 0, 0), -2);
    Due.is("post -1", x.forecast(0, -1, 0, 0), -2);
    Due.is("post 2", x.forecast(0, 2, 0, 0), -2);
    Due.is("hour -1", x.forecast(0, 0, -1, 0), -2);
    Due.is("hour 24", x.forecast(0, 0, 24, 0), -2);
    Due.is("what -1", x.forecast(0, 0, 0, -1), -2);
    Due.is("what 2", x.forecast(0, 0, 0, 2), -2);
    Due.is("no day", x.forecast(0, 0, 1, 0), 0);
    Due.is("no days", x.forecast(0, 0, 1, 1), 0);
    x.step(80);
    x.endDay(2);
    Due.is("one day", x.forecast(2, 0, 1, 0), 1);
    Due.is("all days, for another weekday", x.forecast(5, 0, 1, 0), 1);
    Due.is("how many", x.forecast(5, 0, 1, 1), 1);
    x.rider(75, 0, 1, 0);
    x.step(80);
    x.endDay(3);
    Due.is("one of the weekday: all", x.forecast(3, 0, 1, 0), 3);
    Due.is("how many", x.forecast(3, 0, 1, 1), 2);
    x.step(80);
    x.endDay(3);
    Due.is("two of the weekday", x.forecast(3, 0, 1, 0), 4);
    Due.is("how many", x.forecast(3, 0, 1, 1), 2);
    Due.is("all for the others", x.forecast(2, 0, 1, 0), 5);
    Due.is("how many", x.forecast(2, 0, 1, 1), 3);
    Due.is("another hour", x.forecast(3, 0, 0, 0), 0);
    Due.is("another post", x.forecast(3, 1, 1, 0), 0);
    x.step(80);
    Due.is("the day under way does not count", x.forecast(3, 0, 1, 0), 4);
  }

  private static void whatIf() {
    BikeTown x = two();
    Due.is("no rule", x.whatIf(0, 0), -2);
    Due.rule(x, 24, 13, 1, 20, 23, 13, 3);
    Due.rule(x, 24, 13, 1, 20, 28);
    Due.is("rule -1", x.whatIf(-1, 0), -2);
    Due.is("rule 2", x.whatIf(2, 0), -2);
    Due.is("what -1", x.whatIf(0, -1), -2);
    Due.is("what 4", x.whatIf(0, 4), -2);
    for (int w = 0; w < 4; w++) Due.is("minute 0, " + w, x.whatIf(0, w), 0);
    x.rider(0, 0, 1, 0);
    x.rider(1, 0, 1, 0);
    x.rider(1, 0, 1, 0);
    x.step(10);
    Due.is("really: lost", x.postAt(0, 7), 2);
    long before = x.digest();
    Due.is("without the price: rides", x.whatIf(0, 0), 1);
    Due.is("without the price: paid", x.whatIf(0, 2), 10);
    Due.is("not closed: rides", x.whatIf(1, 0), 2);
    Due.is("not closed: lost", x.whatIf(1, 1), 1);
    Due.is("not closed: paid", x.whatIf(1, 2), 13);
    Due.is("not closed: empty, 0: minutes 1 .. 9; 1: minutes 0 .. 2", x.whatIf(1, 3), 12);
    Due.is("closed, the ride comes back: 0: none; 1: all", x.whatIf(0, 3), 10);
    Due.is("nothing is changed by it", x.digest(), before);
  }

  private static void whatIfByHand() {
    BikeTown x = two();
    Due.rule(x, 24, 13, 2, 20, 28);
    x.rider(3, 0, 1, 0);
    x.rider(6, 0, 1, 0);
    x.step(3);
    x.open(0, true);
    x.step(2);
    x.open(0, false);
    x.step(3);
    Due.is("really", x.postAt(0, 7), 1);
    Due.is("opening can't be done, closing can", x.whatIf(0, 1), 1);
    Due.is("rides", x.whatIf(0, 0), 1);
    x.off(0, true);
    Due.is("off now: what if it were not", x.whatIf(0, 1), 1);
    BikeTown y = two();
    Due.rule(y, 21, 14, 0, 20, 23, 13, 9, 9);
    y.rider(1, 0, 1, 0);
    y.rider(1, 0, 1, 0);
    y.step(3);
    y.steal(0);
    y.faulty(1);
    y.find(0, 1);
    y.stop(0, 1);
    y.price(1, 50);
    y.rider(3, 1, 0, 0);
    y.step(2);
    Due.is("really: lost", y.postAt(0, 7) + y.postAt(1, 7), 3);
    Due.is("both ride; no theft, no finding; the price holds", y.whatIf(0, 0), 2);
    Due.is("the third one finds it too dear", y.whatIf(0, 1), 1);
    Due.is("paid", y.whatIf(0, 2), 20);
    Due.is("empty: 0 from minute 1 on; 1 in minutes 0 .. 3", y.whatIf(0, 3), 8);
    y.endDay(0);
    y.step(5);
    Due.is("another day has none of it", y.whatIf(0, 0), 3);
    Due.is("the third one waits, then rides", y.whatIf(0, 1), 0);
  }

  private static void whatIfOff() {
    BikeTown x = two();
    x.rider(2, 0, 1, 0);
    x.step(5);
    Due.rule(x, 1, 13, 1, 20, 28);
    Due.rule(x, 24, 13, 0, 20, 23, 13, 7);
    Due.is("a rule made later holds from the beginning", x.whatIf(1, 1), 1);
    Due.is("and the other, too", x.whatIf(0, 2), 7);
    x.off(0, true);
    Due.is("is off", x.whatIf(1, 1), 0);
    Due.is("paid without both", x.whatIf(1, 2), 10);
    Due.is("on, if it is off", x.whatIf(0, 1), 1);
    Due.rule(x, 26, 13, 1, 20, 23, 13, 0);
    x.rider(6, 1, 0, 0);
    x.step(3);
    x.shop(60, 1);
    Due.is("really there is a ride from post 1", x.postAt(1, 6), 1);
    Due.is("by worn as it is now the bike is faulty there", x.whatIf(2, 0), 1);
  }
}
