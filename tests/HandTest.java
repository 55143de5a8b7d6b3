/** Promises 7 to 12: price, open, faulty, steal, find, stop. */
public final class HandTest {
  public static void main(String[] args) {
    price();
    open();
    faulty();
    steal();
    find();
    stop();
    fullOfThings();
    Due.end();
  }

  private static BikeTown town() {
    BikeTown x = new BikeTown();
    x.post(0, 0, 2);
    x.post(0, 50, 3);
    x.post(0, 20, 1);
    x.bike(0);
    x.bike(0);
    x.bike(1);
    return x;
  }

  private static void price() {
    BikeTown x = town();
    Due.is("post -1", x.price(-1, 5), -2);
    Due.is("post 3", x.price(3, 5), -2);
    Due.is("price -1", x.price(0, -1), -2);
    Due.is("price 100", x.price(0, 100), -2);
    Due.is("nothing done", x.count(8), 0);
    Due.is("what it was", x.price(0, 99), 10);
    Due.is("what it was then", x.price(0, 0), 99);
    Due.is("like before", x.price(0, 0), 0);
    Due.is("now", x.postAt(0, 3), 0);
    Due.is("another post", x.postAt(1, 3), 10);
    Due.is("things by hand", x.count(8), 3);
    Due.is("no line", x.count(5), 0);
    x.step(3);
    Due.is("in the midst of a day", x.price(1, 21), 10);
    x.rider(3, 1, 0, 0);
    x.step(1);
    Due.is("too dear", x.riderAt(0, 0), 4);
  }

  private static void open() {
    BikeTown x = town();
    Due.is("post -1", x.open(-1, true), -2);
    Due.is("post 3", x.open(3, true), -2);
    Due.is("it is so", x.open(0, true), -3);
    Due.is("closed", x.open(0, false), 1);
    Due.is("it is closed", x.open(0, false), -3);
    Due.is("told", x.postAt(0, 4), 0);
    Due.is("line", x.log(0, 0), 11);
    Due.is("its minute", x.log(0, 1), 0);
    Due.is("its post", x.log(0, 2), 0);
    Due.is("its rider", x.log(0, 3), -1);
    Due.is("its bike", x.log(0, 4), -1);
    x.step(4);
    Due.is("opened", x.open(0, true), 1);
    Due.is("line", x.log(1, 0), 12);
    Due.is("its minute", x.log(1, 1), 4);
    Due.is("things by hand", x.count(8), 2);
    x.open(0, false);
    x.endDay(1);
    Due.is("open as the day began", x.postAt(0, 4), 1);
  }

  private static void faulty() {
    BikeTown x = town();
    Due.is("bike -1", x.faulty(-1), -2);
    Due.is("bike 3", x.faulty(3), -2);
    Due.is("told", x.faulty(0), 1);
    Due.is("it is", x.faulty(0), -3);
    Due.is("faulty", x.bikeAt(0, 3), 1);
    Due.is("bikes there", x.postAt(0, 0), 2);
    Due.is("not faulty there", x.postAt(0, 1), 1);
    Due.is("no line", x.count(5), 0);
    x.rider(0, 0, 1, 0);
    x.rider(0, 0, 1, 0);
    x.step(1);
    Due.is("the other bike is ridden", x.riderAt(0, 1), 1);
    Due.is("a faulty one never", x.riderAt(1, 0), 1);
    Due.is("not at a post", x.faulty(1), -3);
    Due.is("empty minute with a faulty bike there", x.postAt(0, 8), 1);
    x.steal(2);
    Due.is("gone", x.faulty(2), -3);
    Due.is("things by hand", x.count(8), 2);
  }

  private static void steal() {
    BikeTown x = town();
    Due.is("bike -1", x.steal(-1), -2);
    Due.is("bike 3", x.steal(3), -2);
    x.step(2);
    Due.is("gone", x.steal(2), 1);
    Due.is("gone told", x.bikeAt(2, 0), 4);
    Due.is("where it was last", x.bikeAt(2, 1), 1);
    Due.is("gone again", x.steal(2), -3);
    Due.is("racks", x.postAt(1, 2), 3);
    Due.is("line", x.log(0, 0), 9);
    Due.is("its minute", x.log(0, 1), 2);
    Due.is("its post", x.log(0, 2), 1);
    Due.is("its rider", x.log(0, 3), -1);
    Due.is("its bike", x.log(0, 4), 2);
    x.faulty(0);
    Due.is("a faulty one", x.steal(0), 1);
    x.rider(2, 0, 1, 0);
    x.step(1);
    Due.is("ridden", x.bikeAt(1, 0), 1);
    Due.is("one that is ridden", x.steal(1), -3);
  }

  private static void find() {
    BikeTown x = town();
    Due.is("bike -1", x.find(-1, 0), -2);
    Due.is("bike 3", x.find(3, 0), -2);
    Due.is("post -1", x.find(0, -1), -2);
    Due.is("post 3", x.find(0, 3), -2);
    Due.is("not gone", x.find(0, 1), -3);
    x.faulty(2);
    x.steal(2);
    Due.is("no rack free", x.find(2, 0), -3);
    x.open(2, false);
    x.step(1);
    Due.is("found, at a closed post", x.find(2, 2), 1);
    Due.is("there", x.bikeAt(2, 0), 0);
    Due.is("post", x.bikeAt(2, 1), 2);
    Due.is("faulty as it was", x.bikeAt(2, 3), 1);
    Due.is("not among those that are well", x.postAt(2, 1), 0);
    Due.is("no rack left", x.postAt(2, 2), 0);
    Due.is("line", x.log(2, 0), 10);
    Due.is("its minute", x.log(2, 1), 1);
    Due.is("its post", x.log(2, 2), 2);
    Due.is("its bike", x.log(2, 4), 2);
    Due.is("found again", x.find(2, 1), -3);
  }

  private static void stop() {
    BikeTown x = town();
    Due.is("post -1", x.stop(-1, 0), -2);
    Due.is("post 3", x.stop(3, 0), -2);
    Due.is("number -13", x.stop(0, -13), -2);
    Due.is("number 13", x.stop(0, 13), -2);
    Due.is("first", x.stop(0, 1), 1);
    Due.is("second", x.stop(1, -12), 2);
    Due.is("nothing to do there", x.stop(1, 0), 3);
    x.step(1);
    Due.is("at once, if it is there", x.van(1), 1);
    Due.is("one is done", x.van(3), 2);
    Due.is("under way for 6 minutes", x.van(2), 6);
    Due.is("still at", x.van(0), 0);
    Due.is("in the van", x.bikeAt(0, 0), 2);
    Due.is("no post", x.bikeAt(0, 1), -1);
    Due.is("behind", x.stop(2, 12), 3);
    x.step(5);
    Due.is("minute 5 gone", x.van(0), 0);
    x.step(1);
    Due.is("there in minute 6", x.van(0), 1);
    Due.is("left what it had", x.van(1), 0);
    Due.is("the stop of 0 at once, too", x.van(3), 1);
    Due.is("on to post 2, 4 minutes", x.van(2), 10);
    Due.is("line taken", x.log(0, 0), 5);
    Due.is("bike taken", x.log(0, 4), 0);
    Due.is("line left", x.log(1, 0), 6);
    Due.is("minute left", x.log(1, 1), 6);
    Due.is("post left", x.log(1, 2), 1);
    Due.is("bike left", x.log(1, 4), 0);
    x.step(4);
    Due.is("done", x.van(3), 0);
    Due.is("stays", x.van(0), 2);
    Due.is("not under way", x.van(2), -1);
    for (int i = 1; i <= 20; i++) Due.is("stop " + i, x.stop(0, 0), i);
    Due.is("21st", x.stop(0, 0), -4);
    Due.is("21st, bad", x.stop(3, 0), -2);
    vanTakesTheLeastWorn();
  }

  private static void vanTakesTheLeastWorn() {
    BikeTown x = new BikeTown();
    x.post(0, 0, 4);
    x.post(0, 0, 4);
    x.post(0, 0, 2);
    for (int b = 0; b < 4; b++) x.bike(0);
    x.rider(0, 0, 1, 0);
    x.rider(1, 1, 0, 0);
    x.step(3);
    Due.is("worn", x.bikeAt(0, 2), 2);
    x.faulty(2);
    x.stop(0, 3);
    x.stop(2, -3);
    x.step(2);
    Due.is("least worn first", x.log(4, 4), 1);
    Due.is("of like ones the least number, no faulty one", x.log(5, 4), 3);
    Due.is("then the worn one", x.log(6, 4), 0);
    Due.is("those it took first, first", x.log(7, 4), 1);
    Due.is("next", x.log(8, 4), 3);
    Due.is("as many as racks are free", x.van(1), 1);
    Due.is("minute", x.log(8, 1), 4);
  }

  private static void fullOfThings() {
    BikeTown x = town();
    for (int i = 0; i < 199; i++) Due.is("thing " + i, x.price(0, 7), i == 0 ? 10 : 7);
    Due.is("the 200th", x.stop(0, 1), 1);
    Due.is("things", x.count(8), 200);
    Due.is("price", x.price(0, 8), -4);
    Due.is("price, bad", x.price(3, 8), -2);
    Due.is("open", x.open(0, false), -4);
    Due.is("open, it is so", x.open(0, true), -3);
    Due.is("faulty", x.faulty(0), -4);
    Due.is("steal", x.steal(0), -4);
    Due.is("find, not gone", x.find(0, 1), -3);
    Due.is("stop", x.stop(0, 1), -4);
    Due.is("nothing changed", x.postAt(0, 3), 7);
    Due.is("nor the list", x.van(3), 1);
    x.step(1);
    Due.is("not in the next minute either", x.price(0, 8), -4);
    x.endDay(0);
    Due.is("another day", x.price(0, 8), 10);
    BikeTown y = town();
    y.steal(0);
    for (int i = 0; i < 199; i++) y.price(0, 7);
    Due.is("find, full", y.find(0, 1), -4);
  }
}
