/**
 * The sentences of section 6 under Terms (best round, prices that answer, new posts, tests) that name a boundary case,
 * one by one, and those of promises 30 to 43. What is refused there stands in RefusedTest.
 */
public final class ChoicesTest {
  private static final int NONE = -1, NO = -3;

  public static void main(String[] args) {
    wantsAtTheirEnds();
    roundOfNothing();
    roundOfOne();
    roundFromWhereItIs();
    roundUnderWay();
    roundToTheBrim();
    roundOfEight();
    roundByPosts();
    roundOnceToEach();
    wantsChangeNothing();
    gainsAtTheirEnds();
    stillAmongLikeOnes();
    stillIsLast();
    answersAmongLikeOnes();
    answersAgain();
    answersFromAllPairs();
    longestWayRound();
    sitesAtTheirEnds();
    sitesOfLikeSums();
    sitesByOpenPosts();
    sitesOfTwelve();
    testsAtTheirEnds();
    linesBesideScores();
    linesOfOneKind();
    sharesAtTheirEnds();
    countsOfAll();
    digestWrapsRound();
    Due.end();
  }

  private static BikeTown row(int posts) {
    BikeTown x = new BikeTown();
    for (int p = 0; p < posts; p++) x.post(9 * p, 0, 20);
    return x;
  }

  private static void order(BikeTown x, int... posts) {
    for (int i = 0; i < posts.length; i++) Due.is("post " + i + " of the round", x.roundAt(i), posts[i]);
    Due.is("no more of the round", x.roundAt(posts.length), NONE);
  }

  // ---- best round

  private static void wantsAtTheirEnds() {
    BikeTown x = row(12);
    Due.is("0 at first", x.want(11, 12), 0);
    Due.is("12", x.want(11, -12), 12);
    Due.is("-12", x.want(11, 0), -12);
    Due.is("0", x.want(11, 0), 0);
  }

  private static void roundOfNothing() {
    BikeTown x = row(3);
    Due.is("no wants: no way", x.round(), 0);
    order(x);
    x.want(1, 1);
    x.want(1, 0);
    Due.is("those with 0 are not looked at", x.round(), 0);
    order(x);
    Due.is("far", x.roundAt(Integer.MAX_VALUE), NONE);
  }

  private static void roundOfOne() {
    BikeTown x = row(3);
    x.want(0, 12);
    Due.is("0 to where it is already", x.round(), 0);
    order(x, 0);
    x.want(0, -1);
    Due.is("below 0", x.round(), NONE);
    order(x);
    x.want(0, 0);
    x.want(2, 12);
    Due.is("18 off: 2", x.round(), 2);
    order(x, 2);
  }

  /** The van has 5 and is at post 2. */
  private static BikeTown withVan() {
    BikeTown x = row(4);
    for (int b = 0; b < 9; b++) x.bike(2);
    x.stop(2, 5);
    x.step(9);
    Due.is("it has 5", x.van(1), 5);
    Due.is("at post 2", x.van(0), 2);
    return x;
  }

  private static void roundFromWhereItIs() {
    BikeTown x = withVan();
    x.want(2, -5);
    Due.is("it is there: 0", x.round(), 0);
    order(x, 2);
    x.want(0, 3);
    Due.is("its own first (0), then 0 (2)", x.round(), 2);
    order(x, 2, 0);
    x.want(2, -6);
    Due.is("not 6 of 5: 0 first (2), back (2)", x.round(), 4);
    order(x, 0, 2);
  }

  /** Under way it goes on from where it was last. */
  private static void roundUnderWay() {
    BikeTown x = withVan();
    x.stop(0, 0);
    x.step(1);
    Due.is("under way", x.van(2), 11);
    x.want(2, -1);
    Due.is("where it was last", x.round(), 0);
    x.step(2);
    Due.is("it is at 0", x.van(0), 0);
    Due.is("from there", x.round(), 2);
  }

  private static void roundToTheBrim() {
    BikeTown x = withVan();
    x.want(0, 7);
    Due.is("just 12", x.round(), 2);
    x.want(0, 8);
    Due.is("13", x.round(), NONE);
    x.want(0, -5);
    Due.is("just 0", x.round(), 2);
    x.want(0, -6);
    Due.is("below 0", x.round(), NONE);
    order(x);
    x.want(3, 1);
    Due.is("3 first", x.round(), 1 + 3);
    order(x, 3, 0);
    x.want(1, -12);
    x.want(3, 12);
    Due.is("12 at once are too many of 5, 6 too many for it", x.round(), NONE);
    BikeTown y = row(3);
    y.want(1, 12);
    y.want(2, -12);
    Due.is("0, 12, 0", y.round(), 1 + 1);
    order(y, 1, 2);
    y.want(0, 12);
    Due.is("12 and 12 are too many at once, but not in turn", y.round(), 2 + 1);
    order(y, 0, 2, 1);
    y.want(2, -11);
    Due.is("0, then 2, then 13", y.round(), NONE);
  }

  private static void roundOfEight() {
    BikeTown x = row(12);
    for (int p = 0; p < 8; p++) x.want(p, p < 4 ? 3 : -3);
    Due.is("8 posts, all on the way", x.round(), 7);
    order(x, 0, 1, 2, 3, 4, 5, 6, 7);
    x.want(11, 1);
    Due.is("9 posts", x.round(), NO);
    Due.is("9 posts", x.roundAt(0), NO);
    Due.is("9 posts, far", x.roundAt(9), NO);
    x.want(0, 0);
    Due.is("8 again, but 12 can't come of 10", x.round(), NONE);
    Due.is("none", x.roundAt(0), NONE);
    for (int p = 0; p < 12; p++) x.want(p, 1);
    Due.is("12 posts", x.round(), NO);
  }

  /** Of like ones the first by posts: the lists of posts are looked at from their beginnings. */
  private static void roundByPosts() {
    BikeTown x = new BikeTown();
    for (int p = 0; p < 9; p++) x.post(40, 40, 20);
    for (int p = 8; p > 0; p--) x.want(p, 1);
    Due.is("all ways are 1", x.round(), 8);
    order(x, 1, 2, 3, 4, 5, 6, 7, 8);
    x.want(1, -8);
    x.want(8, 2);
    Due.is("1 can come last alone", x.round(), 8);
    order(x, 2, 3, 4, 5, 6, 7, 8, 1);
    x.want(1, -4);
    x.want(5, -2);
    Due.is("as soon as may be", x.round(), 8);
    order(x, 2, 3, 4, 5, 6, 7, 8, 1);
    x.want(8, 6);
    Due.is("1 behind 4 of them", x.round(), 8);
    order(x, 2, 3, 4, 5, 6, 7, 8, 1);
    x.want(5, 1);
    Due.is("1 behind 2, 3, 4 and 5", x.round(), 8);
    order(x, 2, 3, 4, 5, 1, 6, 7, 8);
  }

  /** A post that is done already lies just between two others: it is not gone to again. */
  private static void roundOnceToEach() {
    BikeTown x = new BikeTown();
    x.post(5, 0, 20);
    x.post(0, 0, 20);
    x.post(10, 0, 20);
    for (int p = 0; p < 3; p++) x.want(p, 1);
    Due.is("5 is 1, 10 is 2", x.round(), 3);
    order(x, 0, 1, 2);
  }

  private static void wantsChangeNothing() {
    BikeTown x = withVan();
    long before = x.digest();
    x.want(0, 3);
    x.round();
    x.roundAt(0);
    Due.is("no bike is moved by it", x.digest(), before);
  }

  // ---- prices that answer

  private static void gainsAtTheirEnds() {
    BikeTown x = new BikeTown();
    for (int who = 0; who < 2; who++) {
      for (int a = 0; a < 5; a++) {
        for (int b = 0; b < 5; b++) {
          Due.is("0 at first", x.gain(who, a, b, 10000), 0);
          Due.is("10000", x.gain(who, a, b, -10000), 10000);
          Due.is("-10000", x.gain(who, a, b, 100 * who + 10 * a + b), -10000);
        }
      }
    }
    for (int i = 0; i < 50; i++) Due.is("each its own", x.gain(i / 25, i / 5 % 5, i % 5, 0), 100 * (i / 25) + 10 * (i / 5 % 5) + i % 5);
  }

  /** A pair is still if neither gains more: like much is not more. */
  private static void stillAmongLikeOnes() {
    BikeTown x = new BikeTown();
    for (int i = 0; i < 25; i++) {
      x.gain(0, i / 5, i % 5, -10000);
      x.gain(1, i / 5, i % 5, 10000);
    }
    Due.is("all alike: all", x.still(), 25);
    x.gain(0, 4, 4, -9999);
    Due.is("4 4 gains the one more: 0 4 to 3 4 are not", x.still(), 21);
    for (int i = 0; i < 4; i++) Due.is("0 0 to 0 3", x.stillAt(i), i);
    Due.is("then 1 0", x.stillAt(4), 10);
    Due.is("4 4 is the last", x.stillAt(20), 44);
    Due.is("no more", x.stillAt(21), NONE);
    x.gain(1, 4, 4, 9999);
    Due.is("the other goes away from it", x.still(), 20);
    Due.is("4 3 is the last", x.stillAt(19), 43);
    Due.is("no more", x.stillAt(20), NONE);
  }

  private static void stillIsLast() {
    BikeTown x = new BikeTown();
    for (int i = 0; i < 25; i++) {
      x.gain(0, i / 5, i % 5, i / 5);
      x.gain(1, i / 5, i % 5, i % 5);
    }
    Due.is("one", x.still(), 1);
    Due.is("4 4", x.stillAt(0), 44);
    Due.is("no more", x.stillAt(1), NONE);
    Due.is("two turns from 0 0", x.answers(0, 0), 2);
    Due.is("one from 0 4", x.answers(0, 4), 1);
    Due.is("two from 4 0: the one stays, the other goes", x.answers(4, 0), 2);
    Due.is("none from 4 4", x.answers(4, 4), 0);
  }

  /** To the least level that gains it most; staying, if its own does. */
  private static void answersAmongLikeOnes() {
    BikeTown x = new BikeTown();
    for (int a = 2; a < 5; a++) x.gain(0, a, 0, 7);
    Due.is("from 0: to 2", x.answers(0, 0), 1);
    for (int a = 2; a < 5; a++) Due.is("stays at " + a, x.answers(a, 0), 0);
    x.gain(1, 2, 3, 1);
    Due.is("2 it is, and there the other goes", x.answers(0, 0), 2);
    Due.is("from 3 it does not", x.answers(3, 0), 0);
    x.gain(0, 1, 3, 1);
    x.gain(1, 1, 3, 1);
    Due.is("2 0, 2 3, 1 3", x.answers(0, 0), 3);
    Due.is("from 2 0 the one stays, then 2 3, 1 3", x.answers(2, 0), 3);
  }

  /** The same again: no answer is left of the one before. */
  private static void answersAgain() {
    BikeTown x = new BikeTown();
    for (int i = 0; i < 25; i++) {
      x.gain(0, i / 5, i % 5, i / 5 % 2 == i % 5 % 2 ? 1 : 0);
      x.gain(1, i / 5, i % 5, i / 5 % 2 == i % 5 % 2 ? 0 : 1);
    }
    int due = x.answers(0, 0);
    Due.is("the one stays, 0 1, 1 1, 1 0, 0 0 with the other to turn, 0 1 with the one", due, -15);
    for (int i = 0; i < 3; i++) Due.is("again", x.answers(0, 0), due);
    Due.is("1 1 likewise", x.answers(1, 1), -15);
    Due.is("0 0 again", x.answers(0, 0), due);
    x.gain(1, 0, 0, 9);
    Due.is("told anew: 0 0 is still", x.answers(0, 0), 0);
  }

  /** From each pair it is told just as by a plain walk. */
  private static void answersFromAllPairs() {
    for (int table = 1; table <= 30; table++) {
      BikeTown x = new BikeTown();
      int[][][] gain = new int[2][5][5];
      for (int i = 0; i < 50; i++) {
        int v = (i * i * 7 + i * table * 13 + table * table) % (2 + table % 5);
        gain[i / 25][i / 5 % 5][i % 5] = v;
        x.gain(i / 25, i / 5 % 5, i % 5, v);
      }
      for (int i = 0; i < 25; i++) Due.is("table " + table + " from " + i, x.answers(i / 5, i % 5), walk(gain, i / 5, i % 5));
    }
  }

  private static int walk(int[][][] gain, int a, int b) {
    java.util.List<String> was = new java.util.ArrayList<>();
    for (int turn = 0; ; turn++) {
      int one = bestOf(new int[] {gain[0][0][b], gain[0][1][b], gain[0][2][b], gain[0][3][b], gain[0][4][b]}, a);
      int other = bestOf(gain[1][a], b);
      if (one == a && other == b) return turn;
      String now = a + " " + b + " " + turn % 2;
      if (was.contains(now)) return -10 - turn;
      was.add(now);
      if (turn % 2 == 0) a = one;
      else b = other;
    }
  }

  private static int bestOf(int[] gains, int own) {
    int best = own;
    for (int v = 0; v < 5; v++) if (gains[v] > gains[best] || best != own && gains[v] == gains[best] && v < best) best = v;
    return best;
  }

  /** The one goes after the other, the other goes one on: ten states, all of them met. */
  private static void longestWayRound() {
    BikeTown x = new BikeTown();
    for (int i = 0; i < 25; i++) {
      x.gain(0, i / 5, i % 5, i / 5 == i % 5 ? 1 : 0);
      x.gain(1, i / 5, i % 5, i % 5 == (i / 5 + 1) % 5 ? 1 : 0);
    }
    Due.is("no pair is still", x.still(), 0);
    Due.is("from 0 1: ten turns till 0 1 again", x.answers(0, 1), -20);
    Due.is("from 0 0: one turn ahead of it", x.answers(0, 0), -21);
    Due.is("from 0 3: 3 3, 3 4, .. till 3 3 with the other to turn", x.answers(0, 3), -21);
  }

  // ---- new posts

  private static void sitesAtTheirEnds() {
    BikeTown x = new BikeTown();
    Due.is("least", x.site(0, 0), 0);
    Due.is("most", x.site(100, 100), 1);
    Due.is("a wish of 1", x.wish(100, 0, 1), 0);
    Due.is("as far from both: the least set", x.sites(1, 0), 1);
    Due.is("100", x.sites(1, 1), 100);
    Due.is("a wish of 100", x.wish(0, 0, 100), 1);
    Due.is("there", x.sites(1, 0), 1);
    Due.is("another there", x.wish(100, 100, 100), 2);
    Due.is("200 times 100 and 100", x.sites(1, 1), 100 + 20000);
    Due.is("both: k as many as sites", x.sites(2, 0), 3);
    Due.is("both: 100", x.sites(2, 1), 100);
    Due.is("k above sites", x.sites(3, 0), BikeTown.BAD);
  }

  /** Of like sums the least set, though others have less sites in common with it. */
  private static void sitesOfLikeSums() {
    BikeTown x = new BikeTown();
    for (int s = 0; s < 6; s++) x.site(10, 10);
    x.wish(10, 10, 1);
    int[] due = {1, 3, 7, 15};
    for (int k = 1; k <= 4; k++) Due.is("all alike, " + k, x.sites(k, 0), due[k - 1]);
    BikeTown y = new BikeTown();
    int[] places = {0, 50, 50, 0};
    for (int p : places) y.site(p, 0);
    y.wish(0, 0, 1);
    y.wish(50, 0, 1);
    Due.is("0 and 1, 0 and 2, 1 and 3, 2 and 3 are alike", y.sites(2, 0), 3);
    BikeTown z = new BikeTown();
    int[] others = {0, 50, 0, 50, 99};
    for (int p : others) z.site(p, 0);
    z.wish(99, 0, 1);
    z.wish(50, 0, 1);
    Due.is("1 and 4, 3 and 4 are alike", z.sites(2, 0), 18);
  }

  private static void sitesByOpenPosts() {
    BikeTown x = new BikeTown();
    x.site(100, 100);
    x.wish(0, 0, 2);
    Due.is("no post: by the site", x.sites(1, 1), 400);
    x.post(0, 30, 1);
    Due.is("by the post", x.sites(1, 1), 60);
    x.post(10, 0, 1);
    Due.is("by the nearest post", x.sites(1, 1), 20);
    x.open(1, false);
    Due.is("it is closed", x.sites(1, 1), 60);
    x.open(0, false);
    Due.is("none is open", x.sites(1, 1), 400);
    x.site(0, 1);
    Due.is("a site nearer", x.sites(1, 0), 2);
    Due.is("its sum", x.sites(1, 1), 2);
    Due.rule(x, 1, 13, 1, 20, 29);
    x.step(1);
    Due.is("opened by a rule: the site is nearer still", x.sites(1, 1), 2);
    x.wish(10, 0, 1);
    Due.is("a post at the wish itself: 0", x.sites(2, 1), 2);
    x.open(1, false);
    x.step(1);
    x.off(0, true);
    x.open(1, false);
    x.endDay(0);
    Due.is("a new day: open", x.sites(2, 1), 2);
  }

  private static void sitesOfTwelve() {
    BikeTown x = new BikeTown();
    for (int s = 0; s < 12; s++) x.site(9 * s, 0);
    for (int w = 8; w < 12; w++) x.wish(9 * w, 0, 1);
    Due.is("the last four", x.sites(4, 0), 0xF00);
    Due.is("none is off", x.sites(4, 1), 0);
    Due.is("one: 9 or 10", x.sites(1, 0), 1 << 9);
    Due.is("9, 9 and 18 off", x.sites(1, 1), 36);
    for (int w = 4; w < 40; w++) x.wish(99, 0, 100);
    Due.is("40 wishes", x.sites(1, 0), 1 << 11);
    Due.is("27, 18 and 9 off", x.sites(1, 1), 54);
  }

  // ---- tests of bikes

  private static void testsAtTheirEnds() {
    BikeTown x = new BikeTown();
    Due.is("score 0", x.test(0, false), 1);
    Due.is("score 100", x.test(100, false), 2);
    Due.is("none of them: 101", x.line(0, 0), 101);
    Due.is("499 of 1000", x.line(499, 0), 101);
    Due.is("500 of 1000: one of two", x.line(500, 0), 1);
    Due.is("it", x.line(500, 2), 1);
    Due.is("999 of 1000", x.line(999, 0), 1);
    Due.is("1000 of 1000", x.line(1000, 0), 0);
    Due.is("both", x.line(1000, 2), 2);
    Due.is("none is faulty", x.line(1000, 1), 0);
    for (int i = 3; i <= 60; i++) Due.is("row " + i, x.test(100, true), i);
    Due.is("58 are", x.line(500, 1), 58);
    Due.is("with a line of 101 none is found", x.line(0, 1), 0);
  }

  /** The least score that is high enough, from 0 to 101. */
  private static void linesBesideScores() {
    for (int score : new int[] {0, 1, 50, 98, 99, 100}) {
      BikeTown x = new BikeTown();
      x.test(score, false);
      x.test(score, true);
      Due.is("just above " + score, x.line(0, 0), score + 1);
      Due.is("finds none of " + score, x.line(0, 1), 0);
      Due.is("all may be", x.line(1000, 0), 0);
      Due.is("finds that of " + score, x.line(1000, 1), 1);
    }
  }

  private static void linesOfOneKind() {
    BikeTown none = new BikeTown();
    for (int w = 0; w < 3; w++) {
      Due.is("no rows, share 0, " + w, none.line(0, w), 0);
      Due.is("no rows, share 1000, " + w, none.line(1000, w), 0);
    }
    BikeTown x = new BikeTown();
    x.test(70, true);
    x.test(0, true);
    Due.is("faulty ones alone: 0", x.line(0, 0), 0);
    Due.is("finds both", x.line(0, 1), 2);
    Due.is("no others", x.line(0, 2), 0);
  }

  /** No more than s thousandths: just as many are no more. */
  private static void sharesAtTheirEnds() {
    BikeTown x = new BikeTown();
    for (int i = 1; i <= 8; i++) x.test(10 * i, false);
    x.test(40, true);
    for (int n = 0; n <= 8; n++) {
      Due.is(n + " of 8", x.line(125 * n, 2), n);
      Due.is("line of " + n, x.line(125 * n, 0), n == 8 ? 0 : 81 - 10 * n);
      if (n > 0) Due.is("not quite " + n + " of 8", x.line(125 * n - 1, 2), n - 1);
    }
    Due.is("the line is above 40", x.line(500, 1), 0);
    Due.is("the line is at 31", x.line(625, 1), 1);
  }

  // ---- counts

  private static void countsOfAll() {
    BikeTown x = row(12);
    for (int b = 0; b < 60; b++) x.bike(b / 20);
    for (int r = 0; r < 200; r++) x.rider(1439, r % 12, (r + 1) % 12, 0);
    Due.text(x, 1, 13, 2, 20, 28);
    for (int i = 0; i < 10; i++) x.rule();
    for (int i = 5; i < 40; i++) x.say(0);
    for (int i = 0; i < 200; i++) x.price(0, i % 20);
    x.step(1440);
    int[] what = {0, 1, 2, 3, 4, 6, 8, 9}, due = {12, 60, 200, 10, 1440, 0, 200, 40};
    for (int i = 0; i < what.length; i++) Due.is("count " + what[i], x.count(what[i]), due[i]);
    Due.is("as many rides as lines", x.count(5), x.postAt(0, 6) + x.postAt(1, 6) + x.postAt(2, 6));
    Due.is("paid", x.count(7), 19 * x.postAt(0, 6) + 10 * (x.postAt(1, 6) + x.postAt(2, 6)));
  }

  /** Numbers of 64 bits, with Java's wrap-around. */
  private static void digestWrapsRound() {
    BikeTown x = row(12);
    for (int b = 0; b < 60; b++) x.bike(b % 12);
    for (int r = 0; r < 100; r++) x.rider(3 * r, r % 12, (r + 7) % 12, r % 4);
    Due.rule(x, 24, 13, 9, 20, 28);
    Due.rule(x, 24, 13, 9, 9, 20, 29);
    x.steal(59);
    x.stop(3, 4);
    x.say(5);
    x.step(150);
    java.math.BigInteger h = java.math.BigInteger.valueOf(277);
    java.util.List<Integer> all = new java.util.ArrayList<>();
    for (int w = 0; w < 10; w++) all.add(x.count(w));
    for (int p = 0; p < 12; p++) for (int w = 0; w < 9; w++) all.add(x.postAt(p, w));
    for (int b = 0; b < 60; b++) for (int w = 0; w < 4; w++) all.add(x.bikeAt(b, w));
    for (int r = 0; r < 100; r++) for (int w = 0; w < 6; w++) all.add(x.riderAt(r, w));
    for (int w = 0; w < 4; w++) all.add(x.van(w));
    for (int i = 0; i < x.count(5); i++) for (int w = 0; w < 5; w++) all.add(x.log(i, w));
    for (int v : all) h = h.multiply(java.math.BigInteger.valueOf(31)).add(java.math.BigInteger.valueOf(v));
    Due.is("of many", x.digest(), h.longValue());
  }
}
