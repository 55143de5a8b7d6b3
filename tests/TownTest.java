/** Promises 1 to 6: a new object, post, bike, kind, rider, shop. */
public final class TownTest {
  public static void main(String[] args) {
    newObject();
    post();
    bike();
    kind();
    kindOfThoseWhoWait();
    rider();
    shop();
    Due.end();
  }

  private static void newObject() {
    BikeTown x = new BikeTown();
    for (int w = 0; w <= 9; w++) Due.is("new count " + w, x.count(w), 0);
    Due.is("new van post", x.van(0), 0);
    Due.is("new van bikes", x.van(1), 0);
    Due.is("new van way", x.van(2), BikeTown.NONE);
    Due.is("new van stops", x.van(3), 0);
    Due.is("new postAt", x.postAt(0, 0), -2);
    Due.is("new bikeAt", x.bikeAt(0, 0), -2);
    Due.is("new riderAt", x.riderAt(0, 0), -2);
    Due.is("new off", x.off(0, true), -2);
    Due.is("new log", x.log(0, 0), -1);
    Due.is("NONE", BikeTown.NONE, -1);
    Due.is("BAD", BikeTown.BAD, -2);
    Due.is("NO", BikeTown.NO, -3);
    Due.is("FULL", BikeTown.FULL, -4);
  }

  private static void post() {
    BikeTown x = new BikeTown();
    Due.is("x -1", x.post(-1, 0, 1), -2);
    Due.is("x 101", x.post(101, 0, 1), -2);
    Due.is("y -1", x.post(0, -1, 1), -2);
    Due.is("y 101", x.post(0, 101, 1), -2);
    Due.is("racks 0", x.post(0, 0, 0), -2);
    Due.is("racks 21", x.post(0, 0, 21), -2);
    Due.is("none yet", x.count(0), 0);
    Due.is("first", x.post(0, 100, 1), 0);
    Due.is("second", x.post(100, 0, 20), 1);
    Due.is("racks free", x.postAt(1, 2), 20);
    Due.is("price at first", x.postAt(0, 3), 10);
    Due.is("open at first", x.postAt(0, 4), 1);
    for (int p = 2; p < 12; p++) Due.is("post " + p, x.post(p, p, 5), p);
    Due.is("13th", x.post(1, 1, 1), -4);
    Due.is("13th, bad", x.post(1, 1, 21), -2);
    x.price(0, 10);
    Due.is("behind a thing by hand, NO ahead of FULL", x.post(1, 1, 1), -3);
    BikeTown y = new BikeTown();
    y.post(0, 0, 2);
    Due.is("refused by hand", y.open(0, true), -3);
    Due.is("a refused thing by hand changes nothing", y.post(1, 1, 1), 1);
    y.step(1);
    Due.is("minute above 0", y.post(1, 1, 1), -3);
    Due.is("minute above 0, bad", y.post(1, 1, 0), -2);
    y.price(1, 3);
    y.endDay(0);
    Due.is("a new day's beginning", y.post(9, 9, 3), 2);
    Due.is("of new prices", y.postAt(2, 3), 10);
    Due.is("open", y.postAt(2, 4), 1);
  }

  private static void bike() {
    BikeTown x = new BikeTown();
    Due.is("no post", x.bike(0), -2);
    x.post(0, 0, 2);
    x.post(0, 0, 20);
    x.post(0, 0, 20);
    x.post(0, 0, 20);
    Due.is("post -1", x.bike(-1), -2);
    Due.is("post 4", x.bike(4), -2);
    Due.is("first", x.bike(0), 0);
    Due.is("second", x.bike(0), 1);
    Due.is("no rack", x.bike(0), -3);
    Due.is("there", x.bikeAt(1, 0), 0);
    Due.is("its post", x.bikeAt(1, 1), 0);
    Due.is("wear", x.bikeAt(1, 2), 0);
    Due.is("faulty", x.bikeAt(1, 3), 0);
    for (int b = 2; b < 60; b++) Due.is("bike " + b, x.bike(1 + (b - 2) / 20), b);
    Due.is("61st", x.bike(3), -4);
    Due.is("61st where no rack is", x.bike(1), -3);
    x.stop(0, 1);
    Due.is("behind a thing by hand", x.bike(3), -3);
    BikeTown y = new BikeTown();
    y.post(0, 0, 5);
    y.step(1);
    Due.is("minute above 0", y.bike(0), -3);
    y.endDay(0);
    Due.is("a new day's beginning", y.bike(0), 0);
    Due.is("it stands", y.postAt(0, 0), 1);
  }

  private static void kind() {
    BikeTown x = new BikeTown();
    Due.is("kind -1", x.kind(-1, 0, 0), -2);
    Due.is("kind 4", x.kind(4, 0, 0), -2);
    Due.is("limit -1", x.kind(0, -1, 0), -2);
    Due.is("limit 100", x.kind(0, 100, 0), -2);
    Due.is("patience -1", x.kind(0, 0, -1), -2);
    Due.is("patience 61", x.kind(0, 0, 61), -2);
    Due.is("least", x.kind(0, 0, 0), 1);
    Due.is("most", x.kind(3, 99, 60), 1);
    Due.is("limit 10", x.kind(1, 10, 5), 1);
    Due.is("limit 9", x.kind(2, 9, 5), 1);
    x.post(0, 0, 9);
    x.post(0, 50, 9);
    for (int i = 0; i < 4; i++) x.bike(0);
    for (int k = 0; k < 4; k++) x.rider(0, 0, 1, k);
    x.step(1);
    Due.is("limit 0 below the price 10", x.riderAt(0, 0), 4);
    Due.is("limit like the price", x.riderAt(1, 0), 2);
    Due.is("limit below the price", x.riderAt(2, 0), 4);
    Due.is("limit 99", x.riderAt(3, 0), 2);
    BikeTown y = new BikeTown();
    y.post(0, 0, 9);
    y.post(0, 50, 9);
    y.bike(0);
    y.bike(0);
    for (int k = 0; k < 4; k++) y.kind(k, 0, 0);
    y.kind(2, 20, 5);
    y.rider(0, 0, 1, 2);
    y.rider(0, 0, 1, 3);
    y.step(1);
    Due.is("told anew", y.riderAt(0, 0), 2);
    Due.is("others are not changed by it", y.riderAt(1, 0), 4);
    BikeTown z = new BikeTown();
    z.post(0, 0, 1);
    z.post(0, 50, 9);
    z.rider(0, 0, 1, 3);
    z.price(0, 20);
    z.step(1);
    Due.is("limit 20 at first", z.riderAt(0, 0), 1);
    z.step(4);
    Due.is("patience 5 at first: minute 4", z.riderAt(0, 0), 1);
    z.step(1);
    Due.is("patience 5 at first: minute 5", z.riderAt(0, 0), 5);
  }

  private static void kindOfThoseWhoWait() {
    BikeTown x = new BikeTown();
    x.post(0, 0, 1);
    x.post(0, 50, 1);
    x.rider(0, 0, 1, 0);
    x.rider(0, 0, 1, 1);
    x.step(2);
    Due.is("waits", x.riderAt(0, 0), 1);
    x.kind(0, 20, 2);
    x.step(1);
    Due.is("less patience holds for who waits", x.riderAt(0, 0), 5);
    Due.is("another kind waits on", x.riderAt(1, 0), 1);
    x.kind(1, 20, 60);
    x.step(50);
    Due.is("more patience, too", x.riderAt(1, 0), 1);
    Due.rule(x, 1, 13, 2, 20, 28);
    Due.is("what if, by kinds as they are now", x.whatIf(0, 1), 1);
    x.kind(0, 20, 60);
    Due.is("what if, both are patient now", x.whatIf(0, 1), 0);
    x.kind(0, 9, 60);
    Due.is("what if, too dear for one now", x.whatIf(0, 1), 1);
  }

  private static void rider() {
    BikeTown x = new BikeTown();
    x.post(0, 0, 1);
    x.post(0, 50, 1);
    Due.is("minute -1", x.rider(-1, 0, 1, 0), -2);
    Due.is("minute 1440", x.rider(1440, 0, 1, 0), -2);
    Due.is("from -1", x.rider(0, -1, 1, 0), -2);
    Due.is("from 2", x.rider(0, 2, 1, 0), -2);
    Due.is("to -1", x.rider(0, 0, -1, 0), -2);
    Due.is("to 2", x.rider(0, 0, 2, 0), -2);
    Due.is("like", x.rider(0, 1, 1, 0), -2);
    Due.is("kind -1", x.rider(0, 0, 1, -1), -2);
    Due.is("kind 4", x.rider(0, 0, 1, 4), -2);
    Due.is("first", x.rider(0, 0, 1, 3), 0);
    Due.is("last minute", x.rider(1439, 1, 0, 0), 1);
    for (int w = 1; w <= 4; w++) Due.is("to come " + w, x.riderAt(0, w), -1);
    Due.is("to come", x.riderAt(0, 0), 0);
    Due.is("paid", x.riderAt(0, 5), 0);
    x.price(0, 1);
    x.step(7);
    Due.is("below the minute", x.rider(6, 0, 1, 0), -3);
    Due.is("at the minute, in the midst of a day", x.rider(7, 0, 1, 0), 2);
    for (int r = 3; r < 200; r++) Due.is("rider " + r, x.rider(1000, 0, 1, 0), r);
    Due.is("201st", x.rider(1000, 0, 1, 0), -4);
    Due.is("201st, too early", x.rider(6, 0, 1, 0), -3);
    Due.is("201st, bad", x.rider(6, 0, 0, 0), -2);
    Due.is("how many", x.count(2), 200);
    x.endDay(0);
    Due.is("they stay told", x.count(2), 200);
  }

  private static void shop() {
    BikeTown x = new BikeTown();
    Due.is("mend 0", x.shop(0, 1), -2);
    Due.is("mend 601", x.shop(601, 1), -2);
    Due.is("worn 0", x.shop(1, 0), -2);
    Due.is("worn 5001", x.shop(1, 5001), -2);
    Due.is("most", x.shop(600, 5000), 1);
    Due.is("least", x.shop(1, 1), 1);
    x.post(0, 0, 5);
    x.post(0, 20, 5);
    x.bike(0);
    Due.rule(x, 21, 13, 0, 20, 30);
    x.rider(0, 0, 1, 0);
    x.shop(7, 3);
    x.step(3);
    Due.is("ridden", x.bikeAt(0, 0), 1);
    x.step(1);
    Due.is("left in minute 3 with wear 3, to the shop at once", x.bikeAt(0, 0), 3);
    Due.is("wear", x.bikeAt(0, 2), 3);
    x.step(6);
    Due.is("there till minute 9", x.bikeAt(0, 0), 3);
    x.step(1);
    Due.is("mended in minute 10", x.bikeAt(0, 0), 0);
    Due.is("wear 0", x.bikeAt(0, 2), 0);
    Due.is("not faulty", x.bikeAt(0, 3), 0);
    Due.is("log mended", x.log(3, 0), 8);
    Due.is("its minute", x.log(3, 1), 10);
    BikeTown y = new BikeTown();
    y.post(0, 0, 5);
    y.post(0, 20, 5);
    y.bike(0);
    y.shop(60, 4);
    y.rider(0, 0, 1, 0);
    y.step(9);
    Due.is("wear 3 below worn 4", y.bikeAt(0, 3), 0);
    y.shop(60, 3);
    Due.is("less worn does nothing to who stands", y.bikeAt(0, 3), 0);
    BikeTown z = new BikeTown();
    z.post(0, 0, 1);
    z.bike(0);
    Due.rule(z, 21, 13, 0, 20, 30);
    z.faulty(0);
    z.step(60);
    Due.is("mend 60 at first: minute 59", z.bikeAt(0, 0), 3);
    z.step(1);
    Due.is("mend 60 at first: minute 60", z.bikeAt(0, 0), 0);
  }
}
