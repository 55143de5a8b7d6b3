/** Promises 30 to 43: want, round, roundAt, gain, still, stillAt, answers, site, wish, sites, test, line, count, digest. */
public final class ToolsTest {
  public static void main(String[] args) {
    want();
    round();
    roundOfLikeOnes();
    roundNeedsRoom();
    roundOfMany();
    gain();
    still();
    answers();
    answersComeRound();
    site();
    wish();
    sites();
    sitesAndPosts();
    testRows();
    line();
    count();
    digest();
    Due.end();
  }

  private static BikeTown row(int posts) {
    BikeTown x = new BikeTown();
    for (int p = 0; p < posts; p++) x.post(0, 9 * p, 20);
    return x;
  }

  private static void want() {
    BikeTown x = row(2);
    Due.is("post -1", x.want(-1, 0), -100);
    Due.is("post 2", x.want(2, 0), -100);
    Due.is("-13", x.want(0, -13), -100);
    Due.is("13", x.want(0, 13), -100);
    Due.is("first", x.want(0, 12), 0);
    Due.is("then", x.want(0, -12), 12);
    Due.is("then", x.want(0, 0), -12);
    Due.is("another", x.want(1, 3), 0);
    Due.is("not by hand", x.count(8), 0);
  }

  private static void round() {
    BikeTown x = new BikeTown();
    Due.is("nothing wanted", x.round(), 0);
    Due.is("no post of it", x.roundAt(0), -1);
    Due.is("i -1", x.roundAt(-1), -2);
    x.post(0, 0, 20);
    x.post(0, 50, 20);
    x.post(0, 30, 20);
    x.want(1, 4);
    Due.is("one post: 6 minutes", x.round(), 6);
    Due.is("it", x.roundAt(0), 1);
    Due.is("no more", x.roundAt(1), -1);
    x.want(0, 2);
    x.want(2, -3);
    Due.is("0 is where it is; then 2 can't be, so 1, 2: 0 + 6 + 3", x.round(), 9);
    int[] order = {0, 1, 2, -1};
    for (int i = 0; i < 4; i++) Due.is("post " + i, x.roundAt(i), order[i]);
    x.want(2, -2);
    Due.is("0, 2, 1: 0 + 4 + 3", x.round(), 7);
    order = new int[] {0, 2, 1, -1};
    for (int i = 0; i < 4; i++) Due.is("post " + i, x.roundAt(i), order[i]);
    Due.is("i -1", x.roundAt(-1), -2);
    x.want(2, -7);
    Due.is("none", x.round(), -1);
    Due.is("no post of none", x.roundAt(0), -1);
    Due.is("i -1 of none", x.roundAt(-1), -2);
  }

  private static void roundOfLikeOnes() {
    BikeTown x = new BikeTown();
    for (int p = 0; p < 4; p++) x.post(50, 50, 20);
    for (int p = 1; p < 4; p++) x.want(p, 1);
    Due.is("each way 1", x.round(), 3);
    for (int i = 0; i < 3; i++) Due.is("first by posts " + i, x.roundAt(i), i + 1);
    x.want(1, -1);
    Due.is("each way 1", x.round(), 3);
    int[] order = {2, 1, 3};
    for (int i = 0; i < 3; i++) Due.is("first that can be " + i, x.roundAt(i), order[i]);
  }

  /** The van begins where it is with how many it has. */
  private static void roundNeedsRoom() {
    BikeTown x = new BikeTown();
    x.post(0, 0, 20);
    x.post(0, 20, 20);
    for (int b = 0; b < 5; b++) x.bike(1);
    x.stop(1, 5);
    x.step(10);
    Due.is("it has", x.van(1), 5);
    x.want(0, 8);
    x.want(1, -1);
    Due.is("0 first would be 13; 1 is where it is", x.round(), 3);
    Due.is("first", x.roundAt(0), 1);
    x.want(0, 7);
    x.want(1, -12);
    Due.is("just 12, then just 0: 3 and 3", x.round(), 6);
    Due.is("first", x.roundAt(0), 0);
    x.want(0, 8);
    x.want(1, 0);
    Due.is("above 12", x.round(), -1);
    x.want(0, -6);
    Due.is("below 0", x.round(), -1);
    x.want(0, -5);
    Due.is("just 0", x.round(), 3);
  }

  private static void roundOfMany() {
    BikeTown x = row(12);
    for (int p = 0; p < 8; p++) x.want(p, p % 2 == 0 ? 1 : -1);
    Due.is("8 posts", x.round(), 7);
    for (int i = 0; i < 8; i++) Due.is("post " + i, x.roundAt(i), i);
    x.want(11, 1);
    Due.is("9 posts", x.round(), -3);
    Due.is("9 posts, roundAt", x.roundAt(0), -3);
    Due.is("9 posts, far", x.roundAt(50), -3);
    Due.is("9 posts, i -1", x.roundAt(-1), -2);
    x.want(3, 0);
    Due.is("8 again", x.round() > 0 ? 1 : 0, 1);
  }

  private static void gain() {
    BikeTown x = new BikeTown();
    Due.is("who -1", x.gain(-1, 0, 0, 0), -100000);
    Due.is("who 2", x.gain(2, 0, 0, 0), -100000);
    Due.is("a -1", x.gain(0, -1, 0, 0), -100000);
    Due.is("a 5", x.gain(0, 5, 0, 0), -100000);
    Due.is("b -1", x.gain(0, 0, -1, 0), -100000);
    Due.is("b 5", x.gain(0, 0, 5, 0), -100000);
    Due.is("-10001", x.gain(0, 0, 0, -10001), -100000);
    Due.is("10001", x.gain(0, 0, 0, 10001), -100000);
    Due.is("first", x.gain(0, 4, 3, 10000), 0);
    Due.is("then", x.gain(0, 4, 3, -10000), 10000);
    Due.is("then", x.gain(0, 4, 3, 1), -10000);
    Due.is("another pair", x.gain(0, 3, 4, 1), 0);
    Due.is("the other house", x.gain(1, 4, 3, 1), 0);
  }

  private static void still() {
    BikeTown x = new BikeTown();
    Due.is("all", x.still(), 25);
    Due.is("i -1", x.stillAt(-1), -2);
    Due.is("first", x.stillAt(0), 0);
    Due.is("by the second's level next", x.stillAt(1), 1);
    Due.is("then by the first's", x.stillAt(5), 10);
    Due.is("last", x.stillAt(24), 44);
    Due.is("no more", x.stillAt(25), -1);
    x.gain(0, 2, 3, 1);
    Due.is("for level 3 of the other only level 2", x.still(), 21);
    Due.is("13 of them is not", x.stillAt(3), 4);
    Due.is("23 is", x.stillAt(11), 23);
    x.gain(1, 2, 3, -1);
    Due.is("nor that one then", x.still(), 20);
    x.gain(1, 0, 4, 7);
    Due.is("those of level 0", x.still(), 17);
    Due.is("first", x.stillAt(0), 4);
    Due.is("second", x.stillAt(1), 10);
  }

  private static void answers() {
    BikeTown x = new BikeTown();
    Due.is("a -1", x.answers(-1, 0), -2);
    Due.is("a 5", x.answers(5, 0), -2);
    Due.is("b -1", x.answers(0, -1), -2);
    Due.is("b 5", x.answers(0, 5), -2);
    Due.is("both stay", x.answers(2, 3), 0);
    x.gain(0, 1, 3, 4);
    x.gain(0, 4, 3, 4);
    Due.is("the first goes: one turn", x.answers(2, 3), 1);
    Due.is("stays, if its own gains it most", x.answers(4, 3), 0);
    x.gain(1, 1, 2, 9);
    Due.is("to the least level, there the other goes", x.answers(2, 3), 2);
    x.gain(1, 4, 0, 9);
    Due.is("the first stays, the other goes: two turns", x.answers(4, 3), 2);
    x.gain(0, 0, 2, 1);
    Due.is("and the first again", x.answers(2, 3), 3);
  }

  private static void answersComeRound() {
    BikeTown x = new BikeTown();
    for (int a = 0; a < 5; a++) {
      for (int b = 0; b < 5; b++) {
        x.gain(0, a, b, a == b ? 1 : 0);
        x.gain(1, a, b, b == (a + 1) % 2 ? 1 : 0);
      }
    }
    Due.is("the first stays, 0 1, 1 1, 1 0, 0 0 with the other to turn", x.answers(0, 0), -15);
    Due.is("0, 1: 1 1, 1 0, 0 0, 0 1", x.answers(0, 1), -14);
    Due.is("4, 1: the first turn leads there", x.answers(4, 1), -15);
    Due.is("1, 3: 3 3, 3 0, 0 0, then 4", x.answers(1, 3), -17);
    Due.is("none is still", x.still(), 0);
    Due.is("none told", x.stillAt(0), -1);
  }

  private static void site() {
    BikeTown x = new BikeTown();
    Due.is("x -1", x.site(-1, 0), -2);
    Due.is("x 101", x.site(101, 0), -2);
    Due.is("y -1", x.site(0, -1), -2);
    Due.is("y 101", x.site(0, 101), -2);
    for (int s = 0; s < 12; s++) Due.is("site " + s, x.site(100, s), s);
    Due.is("13th", x.site(0, 0), -4);
    Due.is("13th, bad", x.site(0, 101), -2);
  }

  private static void wish() {
    BikeTown x = new BikeTown();
    Due.is("x -1", x.wish(-1, 0, 1), -2);
    Due.is("x 101", x.wish(101, 0, 1), -2);
    Due.is("y -1", x.wish(0, -1, 1), -2);
    Due.is("y 101", x.wish(0, 101, 1), -2);
    Due.is("0", x.wish(0, 0, 0), -2);
    Due.is("101", x.wish(0, 0, 101), -2);
    for (int w = 0; w < 40; w++) Due.is("wish " + w, x.wish(100, 100, 100), w);
    Due.is("41st", x.wish(0, 0, 1), -4);
    Due.is("41st, bad", x.wish(0, 0, 0), -2);
    x.site(0, 0);
    Due.is("most", x.sites(1, 1), 800000);
  }

  private static void sites() {
    BikeTown x = new BikeTown();
    Due.is("k above sites", x.sites(1, 0), -2);
    for (int s = 0; s < 3; s++) x.site(10 * s, 0);
    Due.is("k 0", x.sites(0, 0), -2);
    Due.is("k -1", x.sites(-1, 0), -2);
    Due.is("k 4 above sites", x.sites(4, 0), -2);
    Due.is("what -1", x.sites(1, -1), -2);
    Due.is("what 2", x.sites(1, 2), -2);
    Due.is("no wish: the least set", x.sites(2, 0), 3);
    Due.is("its sum", x.sites(2, 1), 0);
    x.wish(10, 5, 3);
    x.wish(20, 5, 1);
    Due.is("one", x.sites(1, 0), 2);
    Due.is("3 times 5 and 15", x.sites(1, 1), 30);
    Due.is("two", x.sites(2, 0), 6);
    Due.is("20", x.sites(2, 1), 20);
    Due.is("three", x.sites(3, 0), 7);
    x.site(0, 1);
    x.site(0, 2);
    Due.is("four: of like ones the least", x.sites(4, 0), 15);
    Due.is("five", x.sites(5, 0), -2);
    BikeTown y = new BikeTown();
    y.site(0, 0);
    y.site(9, 0);
    y.site(9, 0);
    y.site(0, 0);
    y.wish(0, 0, 1);
    y.wish(9, 0, 1);
    Due.is("of like ones the least as a set: 0 and 1", y.sites(2, 0), 3);
    BikeTown z = new BikeTown();
    z.site(0, 0);
    z.site(9, 0);
    z.site(9, 0);
    z.site(0, 0);
    z.site(50, 50);
    z.wish(0, 0, 1);
    z.wish(9, 0, 1);
    z.wish(50, 50, 1);
    Due.is("0, 1 and 4", z.sites(3, 0), 19);
  }

  private static void sitesAndPosts() {
    BikeTown x = new BikeTown();
    x.site(0, 0);
    x.site(100, 100);
    x.wish(0, 10, 1);
    x.wish(100, 60, 1);
    Due.is("without a post", x.sites(1, 0), 1);
    Due.is("10 and 160", x.sites(1, 1), 170);
    x.post(0, 12, 1);
    Due.is("the post serves the first", x.sites(1, 0), 2);
    Due.is("2 and 40", x.sites(1, 1), 42);
    x.open(0, false);
    Due.is("closed", x.sites(1, 1), 170);
  }

  private static void testRows() {
    BikeTown x = new BikeTown();
    Due.is("-1", x.test(-1, true), -2);
    Due.is("101", x.test(101, false), -2);
    for (int i = 1; i <= 60; i++) Due.is("row " + i, x.test(i == 1 ? 0 : 100, i % 2 == 0), i);
    Due.is("61st", x.test(0, true), -4);
    Due.is("61st, bad", x.test(101, true), -2);
    Due.is("all kept", x.line(1000, 1) + x.line(1000, 2), 60);
  }

  private static void line() {
    BikeTown x = new BikeTown();
    Due.is("share -1", x.line(-1, 0), -2);
    Due.is("share 1001", x.line(1001, 0), -2);
    Due.is("what -1", x.line(0, -1), -2);
    Due.is("what 3", x.line(0, 3), -2);
    for (int w = 0; w < 3; w++) Due.is("no rows " + w, x.line(0, w), 0);
    x.test(30, true);
    Due.is("none that is not faulty", x.line(0, 0), 0);
    Due.is("finds it", x.line(0, 1), 1);
    x.test(30, false);
    x.test(20, false);
    x.test(20, true);
    x.test(10, false);
    Due.is("none of them", x.line(0, 0), 31);
    Due.is("finds none", x.line(0, 1), 0);
    Due.is("332 of 1000", x.line(332, 0), 31);
    Due.is("333 of 1000 is not a third", x.line(333, 0), 31);
    Due.is("334", x.line(334, 0), 21);
    Due.is("finds one", x.line(334, 1), 1);
    Due.is("and another", x.line(334, 2), 1);
    Due.is("two thirds", x.line(667, 0), 11);
    Due.is("finds both", x.line(667, 1), 2);
    Due.is("all", x.line(1000, 0), 0);
    Due.is("all others", x.line(1000, 2), 3);
    x.test(100, false);
    Due.is("101", x.line(0, 0), 101);
    Due.is("just a quarter", x.line(250, 0), 31);
  }

  private static void count() {
    BikeTown x = new BikeTown();
    Due.is("what -1", x.count(-1), -2);
    Due.is("what 10", x.count(10), -2);
    x.post(0, 0, 3);
    x.post(0, 20, 3);
    x.bike(0);
    x.rider(0, 0, 1, 0);
    x.rider(1, 0, 1, 0);
    x.rider(2, 1, 0, 0);
    Due.rule(x, 1, 13, 2, 20, 28);
    x.say(3);
    x.step(5);
    x.endDay(0);
    x.price(0, 11);
    x.price(1, 12);
    x.steal(0);
    x.find(0, 0);
    x.step(7);
    int[] due = {2, 1, 3, 1, 7, 7, 1, 34, 4, 6};
    for (int w = 0; w < 10; w++) Due.is("count " + w, x.count(w), due[w]);
  }

  private static void digest() {
    BikeTown x = new BikeTown();
    long h = 277;
    for (int w = 0; w < 10; w++) h = 31 * h;
    for (int v : new int[] {0, 0, -1, 0}) h = 31 * h + v;
    Due.is("new", x.digest(), h);
    x.post(0, 0, 3);
    x.post(0, 20, 3);
    x.bike(0);
    x.bike(1);
    x.rider(0, 0, 1, 0);
    x.rider(1, 0, 1, 0);
    x.step(3);
    h = 277;
    for (int w = 0; w <= 9; w++) h = 31 * h + x.count(w);
    for (int p = 0; p < 2; p++) for (int w = 0; w <= 8; w++) h = 31 * h + x.postAt(p, w);
    for (int b = 0; b < 2; b++) for (int w = 0; w <= 3; w++) h = 31 * h + x.bikeAt(b, w);
    for (int r = 0; r < 2; r++) for (int w = 0; w <= 5; w++) h = 31 * h + x.riderAt(r, w);
    for (int w = 0; w <= 3; w++) h = 31 * h + x.van(w);
    for (int i = 0; i < x.count(5); i++) for (int w = 0; w <= 4; w++) h = 31 * h + x.log(i, w);
    Due.is("of all", x.digest(), h);
    Due.is("asking changes nothing", x.digest(), h);
  }
}
