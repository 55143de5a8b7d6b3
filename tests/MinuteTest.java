/** Promises 18 to 24: step, endDay, bikeAt, postAt, riderAt, van, way; and how a minute goes. */
public final class MinuteTest {
  public static void main(String[] args) {
    step();
    endDay();
    dayBegins();
    bikeAt();
    postAt();
    riderAt();
    van();
    way();
    fullPost();
    nearest();
    noneFree();
    wear();
    mendWaitsForARack();
    leastWorn();
    dearAndClosed();
    waitsOn();
    ridersByNumbers();
    Due.end();
  }

  private static BikeTown two(int racks, int otherRacks) {
    BikeTown x = new BikeTown();
    x.post(0, 0, racks);
    x.post(0, 20, otherRacks);
    return x;
  }

  private static void step() {
    BikeTown x = new BikeTown();
    Due.is("0", x.step(0), -2);
    Due.is("-1", x.step(-1), -2);
    Due.is("1441", x.step(1441), -2);
    Due.is("1", x.step(1), 1);
    Due.is("the minute", x.count(4), 1);
    Due.is("up to the day's end", x.step(1440), 1439);
    Due.is("the minute", x.count(4), 1440);
    Due.is("at its end", x.step(1), -3);
    Due.is("at its end, bad", x.step(0), -2);
    x.endDay(0);
    Due.is("all", x.step(1440), 1440);
  }

  private static void endDay() {
    BikeTown x = two(2, 2);
    Due.is("minute 0", x.endDay(0), -3);
    Due.is("weekday -1", x.endDay(-1), -2);
    Due.is("weekday 7", x.endDay(7), -2);
    x.step(1);
    Due.is("weekday 7", x.endDay(7), -2);
    for (int d = 1; d <= 20; d++) {
      Due.is("day " + d, x.endDay(d % 7), d);
      Due.is("no minute of the next", x.endDay(0), -3);
      x.step(1);
    }
    Due.is("21st", x.endDay(0), -4);
    Due.is("21st, bad", x.endDay(7), -2);
    Due.is("days", x.count(6), 20);
    Due.is("nothing changed", x.count(4), 1);
  }

  private static void dayBegins() {
    BikeTown x = two(2, 2);
    x.bike(0);
    x.bike(0);
    x.shop(60, 2);
    x.rider(0, 0, 1, 0);
    x.rider(1, 1, 0, 0);
    x.stop(0, 1);
    x.stop(1, 0);
    x.price(1, 3);
    x.open(1, false);
    x.step(2);
    x.endDay(4);
    Due.is("the minute", x.count(4), 0);
    Due.is("log", x.count(5), 0);
    Due.is("paid", x.count(7), 0);
    Due.is("by hand", x.count(8), 0);
    for (int b = 0; b < 2; b++) for (int w = 0; w < 4; w++) Due.is("bike " + b + " " + w, x.bikeAt(b, w), 0);
    for (int r = 0; r < 2; r++) {
      Due.is("to come", x.riderAt(r, 0), 0);
      for (int w = 1; w < 5; w++) Due.is("rider " + r + " " + w, x.riderAt(r, w), -1);
      Due.is("paid", x.riderAt(r, 5), 0);
    }
    int[] post0 = {2, 2, 0, 10, 1, 0, 0, 0, 0}, post1 = {0, 0, 2, 10, 1, 0, 0, 0, 0};
    for (int w = 0; w < 9; w++) Due.is("post 0 " + w, x.postAt(0, w), post0[w]);
    for (int w = 0; w < 9; w++) Due.is("post 1 " + w, x.postAt(1, w), post1[w]);
    int[] van = {0, 0, -1, 0};
    for (int w = 0; w < 4; w++) Due.is("van " + w, x.van(w), van[w]);
    x.step(4);
    Due.is("the same day goes on without what was done by hand", x.riderAt(0, 0), 3);
    Due.is("wear and worn", x.bikeAt(0, 3), 1);
  }

  private static void bikeAt() {
    BikeTown x = two(2, 2);
    x.bike(0);
    x.bike(0);
    Due.is("bike -1", x.bikeAt(-1, 0), -2);
    Due.is("bike 2", x.bikeAt(2, 0), -2);
    Due.is("what -1", x.bikeAt(0, -1), -2);
    Due.is("what 4", x.bikeAt(0, 4), -2);
    x.rider(0, 0, 1, 0);
    x.step(1);
    Due.is("ridden", x.bikeAt(0, 0), 1);
    Due.is("to", x.bikeAt(0, 1), 1);
    Due.is("wear as it is ridden", x.bikeAt(0, 2), 0);
    x.step(3);
    Due.is("there", x.bikeAt(0, 0), 0);
    Due.is("at", x.bikeAt(0, 1), 1);
    Due.is("wear", x.bikeAt(0, 2), 3);
  }

  private static void postAt() {
    BikeTown x = two(3, 3);
    Due.is("post -1", x.postAt(-1, 0), -2);
    Due.is("post 2", x.postAt(2, 0), -2);
    Due.is("what -1", x.postAt(0, -1), -2);
    Due.is("what 9", x.postAt(0, 9), -2);
    x.bike(0);
    x.bike(0);
    x.faulty(1);
    x.price(0, 12);
    for (int i = 0; i < 3; i++) x.rider(0, 0, 1, 0);
    x.kind(1, 11, 5);
    x.rider(0, 0, 1, 1);
    x.step(2);
    int[] due = {1, 0, 2, 12, 1, 2, 1, 1, 2};
    for (int w = 0; w < 9; w++) Due.is("post 0 " + w, x.postAt(0, w), due[w]);
    x.step(4);
    Due.is("lost", x.postAt(0, 7), 3);
    Due.is("none waits", x.postAt(0, 5), 0);
    Due.is("empty minutes of a closed post, too", x.open(0, false), 1);
    x.step(2);
    Due.is("empty minutes", x.postAt(0, 8), 8);
    Due.is("of the other: minutes 0, 1, 2", x.postAt(1, 8), 3);
  }

  private static void riderAt() {
    BikeTown x = two(2, 2);
    x.bike(0);
    x.rider(3, 0, 1, 0);
    x.rider(3, 0, 1, 0);
    Due.is("rider -1", x.riderAt(-1, 0), -2);
    Due.is("rider 2", x.riderAt(2, 0), -2);
    Due.is("what -1", x.riderAt(0, -1), -2);
    Due.is("what 6", x.riderAt(0, 6), -2);
    x.price(0, 13);
    x.step(3);
    Due.is("to come", x.riderAt(0, 0), 0);
    x.step(1);
    int[] rides = {2, 0, 3, -1, -1, 13}, waits = {1, -1, -1, -1, -1, 0};
    for (int w = 0; w < 6; w++) Due.is("rides " + w, x.riderAt(0, w), rides[w]);
    for (int w = 0; w < 6; w++) Due.is("waits " + w, x.riderAt(1, w), waits[w]);
    x.step(5);
    int[] done = {3, 0, 3, 6, 1, 13}, lost = {5, -1, -1, -1, -1, 0};
    for (int w = 0; w < 6; w++) Due.is("done " + w, x.riderAt(0, w), done[w]);
    for (int w = 0; w < 6; w++) Due.is("lost " + w, x.riderAt(1, w), lost[w]);
    Due.is("paid", x.count(7), 13);
  }

  private static void van() {
    BikeTown x = new BikeTown();
    Due.is("what -1", x.van(-1), -2);
    Due.is("what 4", x.van(4), -2);
    x.post(0, 0, 20);
    x.post(0, 10, 20);
    for (int i = 0; i < 14; i++) x.bike(0);
    x.stop(1, 0);
    x.stop(0, 12);
    x.stop(0, 1);
    x.stop(1, -5);
    x.stop(1, -12);
    Due.is("not ahead of a minute", x.van(2), -1);
    x.step(1);
    Due.is("under way", x.van(2), 2);
    x.step(2);
    Due.is("at 1", x.van(0), 1);
    Due.is("on", x.van(2), 4);
    x.step(2);
    Due.is("at 0", x.van(0), 0);
    Due.is("12 at most", x.van(1), 12);
    Due.is("both stops done", x.van(3), 2);
    x.step(2);
    Due.is("left all, as many as it has", x.van(1), 0);
    Due.is("there", x.postAt(1, 0), 12);
    Due.is("none left", x.van(3), 0);
    x.step(5);
    x.stop(0, 0);
    Due.is("begins in the next minute", x.van(2), -1);
    x.step(1);
    Due.is("of minute 12", x.van(2), 14);
    x.endDay(0);
    Due.is("as the day began", x.van(2), -1);
  }

  private static void way() {
    BikeTown x = new BikeTown();
    x.post(10, 90, 1);
    x.post(19, 90, 1);
    x.post(20, 90, 1);
    x.post(100, 0, 1);
    x.post(5, 86, 1);
    Due.is("post -1", x.way(-1, 0), -2);
    Due.is("post 5", x.way(5, 0), -2);
    Due.is("other -1", x.way(0, -1), -2);
    Due.is("other 5", x.way(0, 5), -2);
    Due.is("itself", x.way(2, 2), 1);
    Due.is("9", x.way(0, 1), 1);
    Due.is("10", x.way(0, 2), 2);
    Due.is("back", x.way(2, 0), 2);
    Due.is("both together", x.way(0, 3), 19);
    Due.is("5 and 4", x.way(0, 4), 1);
    Due.is("14 and 4", x.way(1, 4), 2);
  }

  /** A ride that finds no rack goes on to the nearest post that has one, and there likewise. */
  private static void fullPost() {
    BikeTown x = new BikeTown();
    x.post(0, 0, 3);
    x.post(0, 30, 1);
    x.post(0, 50, 1);
    x.bike(0);
    x.bike(0);
    x.bike(1);
    x.rider(0, 0, 1, 0);
    x.rider(4, 0, 2, 0);
    x.step(5);
    Due.is("on to post 2 (3), not 0 (4)", x.bikeAt(0, 1), 2);
    Due.is("still rides", x.riderAt(0, 0), 2);
    x.step(2);
    Due.is("minute 6", x.riderAt(0, 0), 2);
    x.step(1);
    Due.is("there in minute 7", x.riderAt(0, 3), 7);
    Due.is("where", x.riderAt(0, 4), 2);
    Due.is("wear", x.bikeAt(0, 2), 7);
    x.step(3);
    Due.is("the other one, at full post 2 in minute 10, goes back to 0", x.bikeAt(1, 1), 0);
    x.step(5);
    Due.is("minute 15", x.riderAt(1, 0), 2);
    x.step(1);
    Due.is("there in minute 16", x.riderAt(1, 3), 16);
    Due.is("all minutes it was ridden", x.bikeAt(1, 2), 12);
  }

  private static void nearest() {
    BikeTown x = new BikeTown();
    x.post(50, 50, 1);
    x.post(50, 80, 1);
    x.post(50, 60, 1);
    x.post(60, 80, 1);
    x.post(40, 80, 1);
    x.bike(0);
    x.bike(1);
    x.open(2, false);
    x.rider(0, 0, 1, 0);
    x.step(5);
    Due.is("of like ones the least number, none that is closed", x.bikeAt(0, 1), 3);
    BikeTown y = new BikeTown();
    y.post(50, 50, 1);
    y.post(50, 80, 5);
    y.bike(0);
    y.open(1, false);
    y.rider(0, 0, 1, 0);
    y.step(5);
    Due.is("a closed post takes none", y.bikeAt(0, 1), 0);
    y.step(4);
    Due.is("back", y.riderAt(0, 4), 0);
    Due.is("in minute 8", y.riderAt(0, 3), 8);
  }

  private static void noneFree() {
    BikeTown x = two(1, 1);
    x.bike(0);
    x.bike(1);
    x.rider(0, 0, 1, 0);
    x.step(1);
    x.stop(0, 0);
    x.open(0, false);
    x.step(5);
    Due.is("none is free: minute by minute here", x.riderAt(0, 0), 2);
    Due.is("here", x.bikeAt(0, 1), 1);
    x.steal(1);
    x.step(1);
    Due.is("as soon as one is", x.riderAt(0, 3), 6);
    Due.is("where", x.riderAt(0, 4), 1);
    Due.is("wear", x.bikeAt(0, 2), 6);
  }

  private static void wear() {
    BikeTown x = two(2, 2);
    x.bike(0);
    x.shop(60, 6);
    x.rider(0, 0, 1, 0);
    x.rider(5, 1, 0, 0);
    x.rider(20, 0, 1, 0);
    x.step(4);
    Due.is("wear 3", x.bikeAt(0, 3), 0);
    x.step(5);
    Due.is("wear 6", x.bikeAt(0, 2), 6);
    Due.is("worn", x.bikeAt(0, 3), 1);
    Due.is("well ones", x.postAt(0, 1), 0);
    x.step(20);
    Due.is("nobody takes it", x.riderAt(2, 0), 5);
  }

  private static void mendWaitsForARack() {
    BikeTown x = two(1, 1);
    x.bike(0);
    x.bike(1);
    x.shop(2, 500);
    Due.rule(x, 1, 13, 1, 20, 30);
    x.faulty(0);
    x.rider(0, 1, 0, 0);
    x.step(1);
    Due.is("to the shop", x.bikeAt(0, 0), 3);
    x.open(0, false);
    x.step(2);
    Due.is("mended in minute 2, at a closed post", x.bikeAt(0, 0), 0);
    x.open(0, true);
    x.step(1);
    Due.is("ride that found no rack", x.bikeAt(1, 1), 1);
    BikeTown y = two(1, 1);
    y.bike(0);
    y.bike(1);
    y.shop(3, 500);
    Due.rule(y, 1, 13, 1, 20, 30);
    y.faulty(0);
    y.rider(0, 1, 0, 0);
    y.rider(9, 0, 1, 0);
    y.step(4);
    Due.is("rides end ahead of it", y.bikeAt(1, 0), 0);
    Due.is("no rack", y.bikeAt(0, 0), 3);
    y.step(6);
    Due.is("not yet", y.bikeAt(0, 0), 3);
    y.step(1);
    Due.is("each minute again", y.bikeAt(0, 0), 0);
    Due.is("log", y.log(4, 0), 8);
    Due.is("minute", y.log(4, 1), 10);
    Due.is("post", y.log(4, 2), 0);
    Due.is("bike", y.log(4, 4), 0);
    Due.is("rider", y.log(4, 3), -1);
  }

  private static void leastWorn() {
    BikeTown x = two(4, 4);
    for (int b = 0; b < 3; b++) x.bike(0);
    x.rider(0, 0, 1, 0);
    x.rider(3, 1, 0, 0);
    for (int i = 0; i < 3; i++) x.rider(10, 0, 1, 0);
    x.step(11);
    Due.is("first", x.riderAt(2, 1), 1);
    Due.is("second", x.riderAt(3, 1), 2);
    Due.is("the worn one last", x.riderAt(4, 1), 0);
  }

  private static void dearAndClosed() {
    BikeTown x = two(4, 4);
    x.bike(0);
    x.bike(0);
    x.price(0, 20);
    x.rider(0, 0, 1, 0);
    x.step(1);
    Due.is("price like the limit", x.riderAt(0, 0), 2);
    x.price(0, 21);
    x.rider(1, 0, 1, 0);
    x.step(1);
    Due.is("above", x.riderAt(1, 0), 4);
    Due.is("line", x.log(1, 0), 3);
    Due.is("its rider", x.log(1, 3), 1);
    Due.is("its bike", x.log(1, 4), -1);
    Due.is("its post", x.log(1, 2), 0);
    x.price(0, 10);
    x.open(0, false);
    x.kind(1, 20, 0);
    x.rider(2, 0, 1, 0);
    x.rider(2, 0, 1, 1);
    x.step(1);
    Due.is("closed", x.riderAt(2, 0), 4);
    Due.is("closed, no patience: dear, too", x.riderAt(3, 0), 4);
    x.rider(3, 1, 0, 1);
    x.step(1);
    Due.is("a ride to a post ends ahead of riders", x.riderAt(4, 0), 2);
    x.rider(4, 1, 0, 1);
    x.step(1);
    Due.is("empty, no patience: at once", x.riderAt(5, 0), 5);
    Due.is("line", x.log(7, 0), 4);
    Due.is("its minute", x.log(7, 1), 4);
  }

  private static void waitsOn() {
    BikeTown x = two(4, 4);
    x.bike(1);
    x.kind(1, 20, 3);
    x.rider(0, 0, 1, 0);
    x.rider(0, 0, 1, 1);
    x.step(1);
    x.open(0, false);
    x.step(1);
    Due.is("who waits already goes on waiting", x.riderAt(0, 0), 1);
    x.open(0, true);
    x.price(0, 99);
    x.step(1);
    Due.is("too dear: goes on waiting", x.postAt(0, 5), 2);
    x.step(1);
    Due.is("lost empty at a post that is too dear", x.riderAt(1, 0), 5);
    x.steal(0);
    x.find(0, 0);
    x.step(1);
    Due.is("a bike there is too dear", x.riderAt(0, 0), 1);
    x.price(0, 15);
    x.step(1);
    Due.is("takes it in the last minute of patience", x.riderAt(0, 0), 2);
    Due.is("pays the price as it is then", x.riderAt(0, 5), 15);
    Due.is("minute", x.riderAt(0, 2), 5);
    Due.is("none waits", x.postAt(0, 5), 0);
  }

  private static void ridersByNumbers() {
    BikeTown x = two(4, 4);
    x.rider(2, 0, 1, 0);
    x.rider(0, 0, 1, 0);
    x.bike(1);
    x.steal(0);
    x.step(2);
    x.find(0, 0);
    x.step(1);
    Due.is("the lesser number, though it came later", x.riderAt(0, 0), 2);
    Due.is("waits on", x.riderAt(1, 0), 1);
  }
}
