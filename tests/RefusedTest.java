import java.util.ArrayList;
import java.util.List;
import java.util.Map;
import java.util.TreeMap;

/**
 * Each refusal of each call: what it answers, which of several comes first, and that a refused call changes nothing.
 * The last is looked at by the digest, and by a twin: a town that was told none of the refused calls has to answer all
 * later calls alike.
 */
public final class RefusedTest {
  private static final int NONE = -1, BAD = -2, NO = -3, FULL = -4, LEAST = Integer.MIN_VALUE, MOST = Integer.MAX_VALUE;

  private interface Call { long on(BikeTown x); }

  public static void main(String[] args) {
    townTold();
    townOverFull();
    byHandBad();
    byHandNo();
    byHandFull();
    texts();
    minutes();
    looks();
    tools();
    toolsFull();
    twins();
    Due.end();
  }

  // ---- the twin

  /** The towns that refused calls are told to, by name; each bears all of its own. */
  private static final Map<String, BikeTown> refusing = new TreeMap<>();

  private static void refused(String town, long due, String call, Call c) {
    BikeTown x = refusing.computeIfAbsent(town, RefusedTest::town);
    long before = x.digest();
    Due.is(call + ", " + town + " town", c.on(x), due);
    Due.is("digest behind " + call + ", " + town + " town", x.digest(), before);
  }

  /** What the digest does not tell: later calls are answered as in a town that was told no refused call. */
  private static void twins() {
    for (String town : refusing.keySet()) {
      List<Long> with = behind(refusing.get(town)), without = behind(town(town));
      Due.is(town + " town, answers behind refused calls", with.size(), without.size());
      for (int i = 0; i < without.size(); i++) {
        Due.is(town + " town, answer " + i + " behind refused calls", with.get(i), without.get(i));
      }
    }
  }

  private static List<Long> behind(BikeTown x) {
    List<Long> answers = new ArrayList<>();
    lookAround(x, answers);
    for (int p = 0; p < x.count(0); p++) {
      answers.add((long) x.price(p, 15 + p));
      answers.add((long) x.stop(p, p % 3 - 1));
    }
    for (int k = 0; k < 4; k++) answers.add((long) x.rider(1439, 0, 1, k));
    for (int i = 0; i < 8; i++) {
      answers.add((long) x.step(i < 4 ? 5 : 400));
      answers.add(x.digest());
    }
    lookAround(x, answers);
    for (int p = 0; p < 12; p++) answers.add((long) x.want(p, 0));
    for (int i = 0; i < 50; i++) answers.add((long) x.gain(i / 25, i / 5 % 5, i % 5, 0));
    answers.add((long) x.site(1, 1));
    answers.add((long) x.wish(1, 1, 1));
    answers.add((long) x.test(1, true));
    answers.add((long) x.endDay(0));
    lookAround(x, answers);
    answers.add((long) x.post(1, 1, 1));
    answers.add((long) x.bike(0));
    answers.add((long) x.step(700));
    answers.add((long) x.say(1));
    answers.add((long) x.hush());
    lookAround(x, answers);
    return answers;
  }

  private static void lookAround(BikeTown x, List<Long> answers) {
    answers.add(x.digest());
    answers.add((long) x.fault());
    answers.add((long) x.rule());
    answers.add((long) x.round());
    for (int i = 0; i < 9; i++) answers.add((long) x.roundAt(i));
    answers.add((long) x.still());
    for (int i = 0; i < 25; i++) {
      answers.add((long) x.stillAt(i));
      answers.add((long) x.answers(i / 5, i % 5));
    }
    for (int k = 1; k <= 4; k++) for (int w = 0; w < 2; w++) answers.add((long) x.sites(k, w));
    for (int s = 0; s <= 1000; s += 125) for (int w = 0; w < 3; w++) answers.add((long) x.line(s, w));
    for (int i = 0; i < x.count(3); i++) for (int w = 0; w < 4; w++) answers.add((long) x.whatIf(i, w));
    for (int p = 0; p < x.count(0); p++) {
      answers.add((long) x.asOf(p, x.count(4)));
      for (int h = 0; h < 24; h += 23) for (int w = 0; w < 2; w++) answers.add((long) x.ends(p, h, w));
      for (int d = 0; d < 7; d++) for (int w = 0; w < 2; w++) answers.add((long) x.forecast(d, p, 0, w));
    }
  }

  // ---- the towns

  private static BikeTown town(String name) {
    switch (name) {
      case "new": return new BikeTown();
      case "young": return young();
      case "midst": return midst();
      case "late": return late();
      case "handled": return handled();
      case "listed": return listed();
      case "kept": return kept();
      default: return full();
    }
  }

  /** Minute 0, nothing by hand; no rack is free at post 2. */
  private static BikeTown young() {
    BikeTown x = new BikeTown();
    x.post(0, 0, 6);
    x.post(0, 30, 6);
    x.post(40, 0, 2);
    int[] homes = {0, 0, 0, 0, 1, 1, 2, 2};
    for (int home : homes) x.bike(home);
    x.kind(1, 30, 9);
    x.kind(2, 10, 0);
    x.shop(20, 30);
    for (int r = 0; r < 12; r++) x.rider(39 + r / 3, r % 3, (r + 1) % 3, r % 4);
    Due.rule(x, 27, 14, 1, 20, 23, 13, 23, 10, 2);
    Due.rule(x, 26, 13, 0, 20, 30);
    x.off(0, true);
    Due.text(x, 21, 12, 3, 20, 28);
    for (int p = 0; p < 3; p++) x.want(p, 2 - p);
    for (int i = 0; i < 50; i++) x.gain(i / 25, i / 5 % 5, i % 5, i * 37 % 11);
    for (int s = 0; s < 5; s++) x.site(20 * s, 10 * s);
    for (int w = 0; w < 6; w++) x.wish(100 - 15 * w, 12 * w, w + 1);
    for (int t = 0; t < 9; t++) x.test(11 * t, t % 2 == 0);
    return x;
  }

  /** Minute 40: 0 to the shop, 1 ridden, 2 in the van, 3 gone, 4 faulty at post 1, 5 at post 1; post 2 is closed. */
  private static BikeTown midst() {
    BikeTown x = young();
    x.step(30);
    x.faulty(0);
    x.steal(3);
    x.faulty(4);
    x.open(2, false);
    x.step(8);
    x.step(2);
    x.stop(0, 1);
    x.stop(1, 0);
    x.step(1);
    return x;
  }

  private static BikeTown late() {
    BikeTown x = midst();
    x.step(1440);
    return x;
  }

  /** 200 things by hand, a few of them stops; bike 0 is gone, bike 1 faulty. */
  private static BikeTown handled() {
    BikeTown x = young();
    x.steal(0);
    x.faulty(1);
    x.stop(1, 3);
    x.open(2, false);
    for (int i = 0; i < 196; i++) x.price(0, 10 + i % 3);
    return x;
  }

  /** 20 stops, few things by hand. */
  private static BikeTown listed() {
    BikeTown x = young();
    for (int i = 0; i < 20; i++) x.stop(i % 3, i % 5 - 2);
    return x;
  }

  /** As many as there may be of all that is told ahead; minute 0, nothing by hand. */
  private static BikeTown full() {
    BikeTown x = new BikeTown();
    for (int p = 0; p < 12; p++) x.post(8 * p, 90 - 7 * p, p == 11 ? 6 : 5);
    for (int b = 0; b < 60; b++) x.bike(b / 5);
    for (int r = 0; r < 200; r++) x.rider(r, r % 12, (r + 5) % 12, r % 4);
    for (int i = 0; i < 10; i++) Due.rule(x, 26, 13, i, 17, 24, 14, i, 9, 20, 23, 13, 1, i);
    for (int i = x.hush(); i < 54; i++) x.say(19);
    for (int s = 0; s < 12; s++) x.site(9 * s, 99 - 9 * s);
    for (int w = 0; w < 40; w++) x.wish(2 * w, 3 * w % 100, w + 1);
    for (int t = 0; t < 60; t++) x.test(t, t % 3 == 0);
    for (int p = 0; p < 9; p++) x.want(p, 1);
    return x;
  }

  /** 20 days are kept. */
  private static BikeTown kept() {
    BikeTown x = young();
    for (int d = 0; d < 20; d++) {
      x.step(60);
      x.endDay(d % 7);
    }
    return x;
  }

  // ---- promises 2 to 6

  private static void townTold() {
    for (String town : new String[] {"new", "young", "midst", "full"}) {
      int[][] badPosts = {{-1, 0, 1}, {101, 0, 1}, {0, -1, 1}, {0, 101, 1}, {0, 0, 0}, {0, 0, 21}, {LEAST, MOST, 1}, {0, 0, LEAST}};
      for (int[] v : badPosts) refused(town, BAD, "post of a bad number", x -> x.post(v[0], v[1], v[2]));
      int[][] badKinds = {{-1, 5, 5}, {4, 5, 5}, {0, -1, 5}, {0, 100, 5}, {0, 5, -1}, {0, 5, 61}, {MOST, 5, 5}, {0, LEAST, MOST}};
      for (int[] v : badKinds) refused(town, BAD, "kind of a bad number", x -> x.kind(v[0], v[1], v[2]));
      int[][] badShops = {{0, 9}, {601, 9}, {9, 0}, {9, 5001}, {LEAST, 9}, {9, MOST}};
      for (int[] v : badShops) refused(town, BAD, "shop of a bad number", x -> x.shop(v[0], v[1]));
      refused(town, BAD, "bike(-1)", x -> x.bike(-1));
      refused(town, BAD, "bike behind the last post", x -> x.bike(x.count(0)));
      int[][] badRiders = {{-1, 0, 1, 0}, {1440, 0, 1, 0}, {1439, -1, 1, 0}, {1439, 0, -1, 0}, {1439, 12, 1, 0}, {1439, 0, 12, 0},
          {1439, 1, 1, 0}, {1439, 0, 1, -1}, {1439, 0, 1, 4}, {LEAST, 0, 1, 0}, {MOST, 0, 1, 0}};
      for (int[] v : badRiders) refused(town, BAD, "rider of a bad number", x -> x.rider(v[0], v[1], v[2], v[3]));
    }
    refused("new", BAD, "rider without posts", x -> x.rider(0, 0, 1, 0));
    refused("new", BAD, "bike without posts", x -> x.bike(0));
    refused("young", NO, "bike where no rack is free", x -> x.bike(2));
    refused("midst", NO, "post in the midst of a day", x -> x.post(1, 1, 1));
    refused("midst", NO, "bike in the midst of a day", x -> x.bike(1));
    refused("midst", NO, "rider a minute ago", x -> x.rider(x.count(4) - 1, 0, 1, 0));
    refused("midst", NO, "rider in minute 0", x -> x.rider(0, 0, 1, 0));
    refused("midst", BAD, "rider a minute ago to where he is: BAD first", x -> x.rider(x.count(4) - 1, 1, 1, 0));
    refused("late", NO, "rider at the day's end", x -> x.rider(1439, 0, 1, 0));
    refused("listed", NO, "post behind a stop", x -> x.post(1, 1, 1));
    refused("listed", NO, "bike behind a stop", x -> x.bike(0));
    refused("handled", NO, "post behind things by hand", x -> x.post(1, 1, 1));
    refused("handled", NO, "bike behind things by hand", x -> x.bike(0));
    refused("handled", BAD, "bad bike behind things by hand: BAD first", x -> x.bike(3));
  }

  private static void townOverFull() {
    refused("full", FULL, "13th post", x -> x.post(0, 0, 1));
    refused("full", FULL, "61st bike", x -> x.bike(11));
    refused("full", NO, "61st bike where no rack is: NO first", x -> x.bike(0));
    refused("full", BAD, "61st bike at no post: BAD first", x -> x.bike(12));
    refused("full", FULL, "201st rider", x -> x.rider(0, 0, 1, 0));
    refused("full", BAD, "201st rider, bad: BAD first", x -> x.rider(0, 0, 0, 0));
    BikeTown x = full();
    x.step(1);
    Due.is("13th post in the midst of a day: NO first", x.post(0, 0, 1), NO);
    Due.is("13th post, bad: BAD first", x.post(0, 0, 0), BAD);
    Due.is("61st bike in the midst of a day: NO first", x.bike(11), NO);
    Due.is("201st rider a minute ago: NO first", x.rider(0, 0, 1, 0), NO);
    Due.is("201st rider at the minute", x.rider(1, 0, 1, 0), FULL);
  }

  // ---- promises 7 to 12

  private static void byHandBad() {
    for (String town : new String[] {"new", "young", "midst", "handled"}) {
      for (int off : new int[] {-1, 12, LEAST, MOST}) {
        refused(town, BAD, "price at " + off, x -> x.price(off, 5));
        refused(town, BAD, "open at " + off, x -> x.open(off, false));
        refused(town, BAD, "stop at " + off, x -> x.stop(off, 1));
        refused(town, BAD, "find at " + off, x -> x.find(3, off));
      }
      for (int off : new int[] {-1, 60, LEAST, MOST}) {
        refused(town, BAD, "faulty " + off, x -> x.faulty(off));
        refused(town, BAD, "steal " + off, x -> x.steal(off));
        refused(town, BAD, "find " + off, x -> x.find(off, 0));
      }
      for (int off : new int[] {-1, 100, LEAST, MOST}) refused(town, BAD, "price of " + off, x -> x.price(0, off));
      for (int off : new int[] {-13, 13, LEAST, MOST}) refused(town, BAD, "stop of " + off, x -> x.stop(0, off));
    }
    for (String town : new String[] {"new", "young", "midst", "handled"}) {
      refused(town, BAD, "price behind the last post", x -> x.price(x.count(0), 5));
      refused(town, BAD, "open behind the last post", x -> x.open(x.count(0), true));
      refused(town, BAD, "stop behind the last post", x -> x.stop(x.count(0), 0));
      refused(town, BAD, "find behind the last post", x -> x.find(0, x.count(0)));
      refused(town, BAD, "faulty behind the last bike", x -> x.faulty(x.count(1)));
      refused(town, BAD, "steal behind the last bike", x -> x.steal(x.count(1)));
      refused(town, BAD, "find behind the last bike", x -> x.find(x.count(1), 0));
    }
  }

  /** What can't be done as bikes and posts are; the places of the bikes are looked at first. */
  private static void byHandNo() {
    BikeTown m = midst();
    int[] places = {3, 1, 2, 4, 0};
    for (int b = 0; b < 5; b++) Due.is("place of bike " + b + " in the midst town", m.bikeAt(b, 0), places[b]);
    Due.is("bike 4 is faulty", m.bikeAt(4, 3), 1);
    String[] told = {"in the shop", "ridden", "in the van", "gone"};
    for (int i = 0; i < 4; i++) {
      int b = i;
      refused("midst", NO, "faulty " + told[b], x -> x.faulty(b));
      refused("midst", NO, "steal " + told[b], x -> x.steal(b));
      if (b != 3) refused("midst", NO, "find " + told[b], x -> x.find(b, 0));
    }
    refused("midst", NO, "faulty a second time", x -> x.faulty(4));
    refused("midst", NO, "find at a post", x -> x.find(4, 0));
    refused("midst", NO, "find where no rack is free", x -> x.find(3, 2));
    refused("midst", NO, "open what is open", x -> x.open(0, true));
    refused("midst", NO, "close what is closed", x -> x.open(2, false));
  }

  private static void byHandFull() {
    Due.is("200 things", handled().count(8), 200);
    refused("handled", FULL, "price, the 201st", x -> x.price(0, 5));
    refused("handled", FULL, "price like before, the 201st", x -> x.price(1, 10));
    refused("handled", FULL, "open, the 201st", x -> x.open(2, true));
    refused("handled", FULL, "close, the 201st", x -> x.open(0, false));
    refused("handled", FULL, "faulty, the 201st", x -> x.faulty(2));
    refused("handled", FULL, "steal, the 201st", x -> x.steal(1));
    refused("handled", FULL, "find, the 201st", x -> x.find(0, 1));
    refused("handled", FULL, "stop, the 201st", x -> x.stop(0, 0));
    refused("handled", NO, "open what is open, the 201st: NO first", x -> x.open(0, true));
    refused("handled", NO, "faulty twice, the 201st: NO first", x -> x.faulty(1));
    refused("handled", NO, "faulty gone, the 201st: NO first", x -> x.faulty(0));
    refused("handled", NO, "steal gone, the 201st: NO first", x -> x.steal(0));
    refused("handled", NO, "find what is there, the 201st: NO first", x -> x.find(1, 1));
    refused("handled", NO, "find where no rack is, the 201st: NO first", x -> x.find(0, 2));
    Due.is("things with a full list", listed().count(8), 20);
    refused("listed", FULL, "21st stop", x -> x.stop(0, 1));
    refused("listed", FULL, "21st stop of 0", x -> x.stop(2, 0));
    refused("listed", BAD, "21st stop, bad: BAD first", x -> x.stop(0, 13));
    BikeTown x = listed();
    x.step(1);
    Due.is("two are done: 20 fit again", x.van(3), 19);
    Due.is("the 20th again", x.stop(0, 0), 20);
    Due.is("no more", x.stop(0, 0), FULL);
    BikeTown y = handled();
    y.step(20);
    Due.is("200 things hold for all the day", y.price(0, 5), FULL);
    y.endDay(0);
    Due.is("not for the next", y.price(0, 5), 10);
  }

  // ---- promises 13 to 17

  private static void texts() {
    for (String town : new String[] {"new", "young", "midst", "full"}) {
      for (int off : new int[] {-1, 31, LEAST, MOST}) refused(town, BAD, "say " + off, x -> x.say(off));
      for (int off : new int[] {-1, 10, LEAST, MOST}) {
        refused(town, BAD, "off " + off, x -> x.off(off, true));
        refused(town, BAD, "on " + off, x -> x.off(off, false));
      }
    }
    refused("new", BAD, "off without rules", x -> x.off(0, true));
    refused("young", BAD, "off behind the last rule", x -> x.off(2, true));
    refused("new", NO, "rule of no text", x -> x.rule());
    refused("full", FULL, "41st symbol", x -> x.say(0));
    refused("full", NO, "11th rule of a fault: NO first", x -> x.rule());
    refused("young", NO, "off what is off", x -> x.off(0, true));
    refused("young", NO, "on what is on", x -> x.off(1, false));
    BikeTown x = full();
    Due.is("what it had", x.hush(), 40);
    Due.text(x, 1, 13, 1, 20, 28);
    Due.is("11th rule", x.rule(), FULL);
    Due.is("rules", x.count(3), 10);
    Due.is("the text stays", x.hush(), 5);
    BikeTown y = young();
    y.say(0);
    Due.is("a fault behind the act", y.fault(), 5);
    Due.is("no rule", y.rule(), NO);
    Due.is("rules", y.count(3), 2);
    Due.is("the text stays", y.hush(), 6);
  }

  // ---- promises 18 and 19

  private static void minutes() {
    for (String town : new String[] {"new", "young", "midst", "late", "kept"}) {
      for (int off : new int[] {0, -1, 1441, LEAST, MOST}) refused(town, BAD, "step " + off, x -> x.step(off));
      for (int off : new int[] {-1, 7, LEAST, MOST}) refused(town, BAD, "endDay " + off, x -> x.endDay(off));
    }
    refused("late", NO, "step at the day's end", x -> x.step(1));
    refused("late", NO, "all steps at the day's end", x -> x.step(1440));
    refused("new", NO, "endDay in minute 0", x -> x.endDay(0));
    refused("young", NO, "endDay in minute 0", x -> x.endDay(6));
    refused("handled", NO, "endDay in minute 0, behind things by hand", x -> x.endDay(0));
    refused("kept", NO, "21st day in minute 0: NO first", x -> x.endDay(0));
    BikeTown x = kept();
    x.price(0, 7);
    x.step(3);
    long before = x.digest();
    Due.is("21st day", x.endDay(0), FULL);
    Due.is("21st day, bad: BAD first", x.endDay(7), BAD);
    Due.is("nothing changed", x.digest(), before);
    Due.is("it goes on", x.step(1), 1);
    Due.is("like days", x.forecast(0, 0, 0, 1), 3);
  }

  // ---- promises 20 to 29

  private static void looks() {
    for (String town : new String[] {"new", "young", "midst", "full"}) {
      for (int off : new int[] {-1, 9, LEAST, MOST}) {
        refused(town, BAD, "postAt, what " + off, x -> x.postAt(0, off));
        refused(town, BAD, "bikeAt, what " + off, x -> x.bikeAt(0, off));
        refused(town, BAD, "riderAt, what " + off, x -> x.riderAt(0, off));
        refused(town, BAD, "van " + off, x -> x.van(off));
        refused(town, BAD, "log, what " + off, x -> x.log(0, off));
        refused(town, BAD, "ends, what " + off, x -> x.ends(0, 0, off));
        refused(town, BAD, "forecast, what " + off, x -> x.forecast(0, 0, 0, off));
        refused(town, BAD, "whatIf, what " + off, x -> x.whatIf(0, off));
      }
      for (int off : new int[] {-1, 200, LEAST, MOST}) {
        refused(town, BAD, "postAt " + off, x -> x.postAt(off, 0));
        refused(town, BAD, "bikeAt " + off, x -> x.bikeAt(off, 0));
        refused(town, BAD, "riderAt " + off, x -> x.riderAt(off, 0));
        refused(town, BAD, "way from " + off, x -> x.way(off, 0));
        refused(town, BAD, "way to " + off, x -> x.way(0, off));
        refused(town, BAD, "asOf " + off, x -> x.asOf(off, 0));
        refused(town, BAD, "ends " + off, x -> x.ends(off, 0, 0));
        refused(town, BAD, "ends, hour " + off, x -> x.ends(0, off, 0));
        refused(town, BAD, "forecast, weekday " + off, x -> x.forecast(off, 0, 0, 0));
        refused(town, BAD, "forecast, post " + off, x -> x.forecast(0, off, 0, 0));
        refused(town, BAD, "forecast, hour " + off, x -> x.forecast(0, 0, off, 0));
        refused(town, BAD, "whatIf " + off, x -> x.whatIf(off, 0));
      }
      refused(town, BAD, "log -1", x -> x.log(-1, 0));
      refused(town, BAD, "log far below 0", x -> x.log(LEAST, 0));
      refused(town, NONE, "log behind the last line", x -> x.log(x.count(5), 4));
      refused(town, NONE, "log far behind", x -> x.log(MOST, 0));
      refused(town, BAD, "asOf -1", x -> x.asOf(0, -1));
      refused(town, BAD, "asOf a minute to come", x -> x.asOf(0, x.count(4) + 1));
      refused(town, BAD, "postAt behind the last", x -> x.postAt(x.count(0), 0));
      refused(town, BAD, "bikeAt behind the last", x -> x.bikeAt(x.count(1), 0));
      refused(town, BAD, "riderAt behind the last", x -> x.riderAt(x.count(2), 0));
      refused(town, BAD, "whatIf behind the last", x -> x.whatIf(x.count(3), 0));
    }
    BikeTown x = midst();
    Due.is("bikeAt, what 4", x.bikeAt(0, 4), BAD);
    Due.is("riderAt, what 6", x.riderAt(0, 6), BAD);
    Due.is("van, what 4", x.van(4), BAD);
    Due.is("log, what 5", x.log(0, 5), BAD);
    Due.is("log, what 5 of no line: BAD first", x.log(MOST, 5), BAD);
    Due.is("ends, hour 24", x.ends(0, 24, 0), BAD);
    Due.is("ends, what 2", x.ends(0, 0, 2), BAD);
    Due.is("forecast, weekday 7", x.forecast(7, 0, 0, 0), BAD);
    Due.is("forecast, hour 24", x.forecast(0, 0, 24, 0), BAD);
    Due.is("forecast, what 2", x.forecast(0, 0, 0, 2), BAD);
    Due.is("whatIf, what 4", x.whatIf(0, 4), BAD);
    Due.is("asOf the minute", x.asOf(0, x.count(4)) >= 0 ? 1 : 0, 1);
  }

  // ---- promises 30 to 43

  private static void tools() {
    for (String town : new String[] {"new", "young", "full"}) {
      for (int off : new int[] {-1, 12, LEAST, MOST}) refused(town, -100, "want of " + off, x -> x.want(off, 1));
      for (int off : new int[] {-13, 13, LEAST, MOST}) refused(town, -100, "want " + off, x -> x.want(0, off));
      refused(town, -100, "want behind the last post", x -> x.want(x.count(0), 1));
      refused(town, BAD, "roundAt -1", x -> x.roundAt(-1));
      refused(town, BAD, "roundAt far below 0", x -> x.roundAt(LEAST));
      for (int off : new int[] {-1, 2, LEAST, MOST}) refused(town, -100000, "gain of " + off, x -> x.gain(off, 0, 0, 5));
      for (int off : new int[] {-1, 5, LEAST, MOST}) {
        refused(town, -100000, "gain at level " + off, x -> x.gain(0, off, 0, 5));
        refused(town, -100000, "gain at the other's level " + off, x -> x.gain(1, 0, off, 5));
        refused(town, BAD, "answers from " + off, x -> x.answers(off, 0));
        refused(town, BAD, "answers from the other's " + off, x -> x.answers(0, off));
      }
      for (int off : new int[] {-10001, 10001, LEAST, MOST}) {
        refused(town, -100000, "gain " + off, x -> x.gain(0, 0, 0, off));
        refused(town, -100000, "the other's gain " + off, x -> x.gain(1, 4, 4, off));
      }
      refused(town, BAD, "stillAt -1", x -> x.stillAt(-1));
      refused(town, BAD, "stillAt far below 0", x -> x.stillAt(LEAST));
      refused(town, NONE, "stillAt behind the last", x -> x.stillAt(x.still()));
      refused(town, NONE, "stillAt far behind", x -> x.stillAt(MOST));
      for (int off : new int[] {-1, 101, LEAST, MOST}) {
        refused(town, BAD, "site at x " + off, x -> x.site(off, 0));
        refused(town, BAD, "site at y " + off, x -> x.site(0, off));
        refused(town, BAD, "wish at x " + off, x -> x.wish(off, 0, 1));
        refused(town, BAD, "wish at y " + off, x -> x.wish(0, off, 1));
        refused(town, BAD, "test of " + off, x -> x.test(off, true));
        refused(town, BAD, "test of a well one of " + off, x -> x.test(off, false));
      }
      for (int off : new int[] {0, -1, 101, LEAST, MOST}) refused(town, BAD, "wish of " + off, x -> x.wish(0, 0, off));
      for (int off : new int[] {0, -1, 5, LEAST, MOST}) refused(town, BAD, "sites of " + off, x -> x.sites(off, 0));
      for (int off : new int[] {-1, 2, LEAST, MOST}) refused(town, BAD, "sites, what " + off, x -> x.sites(1, off));
      for (int off : new int[] {-1, 1001, LEAST, MOST}) refused(town, BAD, "line of " + off, x -> x.line(off, 0));
      for (int off : new int[] {-1, 3, LEAST, MOST}) refused(town, BAD, "line, what " + off, x -> x.line(0, off));
      for (int off : new int[] {-1, 10, LEAST, MOST}) refused(town, BAD, "count " + off, x -> x.count(off));
    }
    for (int k = 1; k <= 4; k++) {
      int n = k;
      refused("new", BAD, "sites of " + k + " without sites", x -> x.sites(n, 0));
    }
  }

  private static void toolsFull() {
    refused("full", FULL, "13th site", x -> x.site(0, 0));
    refused("full", BAD, "13th site, bad: BAD first", x -> x.site(0, 101));
    refused("full", FULL, "41st wish", x -> x.wish(0, 0, 1));
    refused("full", BAD, "41st wish, bad: BAD first", x -> x.wish(0, 0, 0));
    refused("full", FULL, "61st test", x -> x.test(0, true));
    refused("full", BAD, "61st test, bad: BAD first", x -> x.test(101, true));
    refused("full", NO, "round of 9", x -> x.round());
    refused("full", NO, "roundAt of 9", x -> x.roundAt(0));
    refused("full", NO, "roundAt of 9, far", x -> x.roundAt(MOST));
    refused("full", BAD, "roundAt of 9, -1: BAD first", x -> x.roundAt(-1));
    BikeTown x = full();
    x.want(8, 0);
    Due.is("round of 8", x.round() >= 0 ? 1 : 0, 1);
  }
}
