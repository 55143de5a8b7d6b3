/**
 * What no sentence of the document asks for is not asked for: a closed post is one for the van, the rules and by hand;
 * faulty bikes stand in racks; wear stays but for rides and the shop; ways are compared as they are cut.
 */
public final class NoMoreTest {
  private static final int GONE = 4;

  public static void main(String[] args) {
    byHandAtAClosedPost();
    vanAtAClosedPost();
    rulesReadAClosedPost();
    faultyBikesFillRacks();
    nearestByCutWays();
    wearStays();
    tablesOfAllDays();
    roundToTheLastPost();
    Due.end();
  }

  /** Posts with three racks each, 20 apart: 3 minutes from one to the next. */
  private static BikeTown row(int posts) {
    BikeTown x = new BikeTown();
    for (int p = 0; p < posts; p++) Due.is("post " + p, x.post(20 * p, 0, 3), p);
    return x;
  }

  private static void byHandAtAClosedPost() {
    BikeTown x = row(1);
    x.bike(0);
    Due.is("closed", x.open(0, false), 1);
    Due.is("its price was", x.price(0, 7), 10);
    Due.is("its price is", x.postAt(0, 3), 7);
    Due.is("faulty", x.faulty(0), 1);
    Due.is("a faulty one is stolen", x.steal(0), 1);
    Due.is("gone", x.bikeAt(0, 0), GONE);
    Due.is("found, faulty still", x.find(0, 0), 1);
    Due.is("faulty still", x.bikeAt(0, 3), 1);
  }

  private static void vanAtAClosedPost() {
    BikeTown x = row(1);
    x.bike(0);
    x.open(0, false);
    x.stop(0, 1);
    x.step(1);
    Due.is("taken", x.van(1), 1);
    x.stop(0, -1);
    x.step(1);
    Due.is("left", x.postAt(0, 0), 1);
  }

  /** BIKES, FREE, WAITING are told of a closed post as of any other. */
  private static void rulesReadAClosedPost() {
    BikeTown x = row(2);
    x.bike(1);
    x.bike(1);
    x.rider(0, 0, 1, 0);
    x.step(1);
    for (int b = 0; b < 2; b++) Due.is("gone " + b, x.steal(b), 1);
    for (int b = 0; b < 2; b++) Due.is("found " + b, x.find(b, 0), 1);
    x.open(0, false);
    Due.is("BIKES = 2 AND FREE = 1 AND WAITING = 1 THEN PRICE = 7",
        Due.rule(x, 21, 13, 2, 17, 22, 13, 1, 17, 27, 13, 1, 20, 23, 13, 7), 0);
    x.step(1);
    Due.is("the rule held there", x.postAt(0, 3), 7);
    Due.is("not here", x.postAt(1, 3), 10);
  }

  private static void faultyBikesFillRacks() {
    BikeTown x = new BikeTown();
    x.post(0, 0, 2);
    x.post(20, 0, 1);
    x.bike(0);
    x.bike(1);
    x.faulty(1);
    x.rider(0, 0, 1, 0);
    x.step(4);
    Due.is("no rack is free: back", x.bikeAt(0, 1), 0);
    x.step(3);
    Due.is("left at", x.riderAt(0, 4), 0);
    Due.is("in minute", x.riderAt(0, 3), 6);
  }

  /** Post 2 is nearer by its measure, but not by its way: the least number is taken. */
  private static void nearestByCutWays() {
    BikeTown x = new BikeTown();
    x.post(0, 0, 1);
    x.post(19, 0, 1);
    x.post(10, 0, 1);
    x.post(0, 90, 1);
    x.bike(3);
    x.bike(0);
    x.rider(0, 3, 0, 0);
    x.step(11);
    Due.is("under way to", x.bikeAt(0, 1), 1);
    x.step(2);
    Due.is("left in minute", x.riderAt(0, 3), 12);
  }

  private static void wearStays() {
    BikeTown x = row(2);
    x.bike(0);
    x.rider(0, 0, 1, 0);
    x.step(4);
    Due.is("of the ride", x.bikeAt(0, 2), 3);
    x.stop(1, 1);
    x.stop(0, -1);
    x.step(7);
    Due.is("the van brought it to", x.bikeAt(0, 1), 0);
    Due.is("behind the van", x.bikeAt(0, 2), 3);
    x.steal(0);
    Due.is("gone", x.bikeAt(0, 2), 3);
    x.find(0, 1);
    Due.is("found", x.bikeAt(0, 2), 3);
  }

  /** A day's end leaves the tables of both houses. */
  private static void tablesOfAllDays() {
    BikeTown x = row(1);
    for (int who = 0; who < 2; who++) x.gain(who, 4, 0, 9 + who);
    x.step(1);
    x.endDay(0);
    for (int who = 0; who < 2; who++) Due.is("table " + who, x.gain(who, 4, 0, 0), 9 + who);
  }

  private static void roundToTheLastPost() {
    BikeTown x = new BikeTown();
    for (int p = 0; p < 12; p++) x.post(8 * p, 0, 1);
    x.want(11, 1);
    Due.is("88 by 10, cut, and 1", x.round(), 9);
    Due.is("the last post", x.roundAt(0), 11);
  }
}
