/**
 * The sentences of the sections 1 to 4 under Terms that name a boundary case, one by one, at the boundary itself and
 * just beside it. What is refused there stands in RefusedTest, section 5 in DaysTest, section 6 in ChoicesTest.
 */
public final class TermsTest {
  private static final int ON = 1, RIDDEN = 1, IN_VAN = 2, IN_SHOP = 3, GONE = 4;
  private static final int WAITS = 1, RIDES = 2, DONE = 3, DEAR = 4, EMPTY = 5;

  public static void main(String[] args) {
    ends1();
    ways();
    lastRack();
    freeAsOfNow();
    nearestLikewise();
    oneMinuteLater();
    closedAsItComes();
    wornAtFirst();
    wornAtItsEnds();
    wearOfManyRides();
    limitAndPrice();
    patienceAtItsEnds();
    patienceOrMore();
    comesOnceOnly();
    lostWhereItIsShut();
    leastWearLeastNumber();
    emptyMinutes();
    oneAfterAnother();
    byHandAtTheMinute();
    ruleFillsTheText();
    digitsAndBrackets();
    hourIsCut();
    waitingAsItBegins();
    priceIsBrought();
    eachTestAnew();
    nothingToFix();
    fixAmongSixty();
    actsAlone();
    rulesForAllPosts();
    tenRules();
    vanTakesTwelve();
    vanLeavesWhatFits();
    twentyStopsAtOnce();
    vanGoesOn();
    vanAtLikePlace();
    vanAtTheDaysEnd();
    mendAtItsEnds();
    mendAsItWasThen();
    mendByBikes();
    mendBehindRides();
    Due.end();
  }

  /** Posts with so many racks each, 20 apart: 3 minutes from one to the next. */
  private static BikeTown row(int... racks) {
    BikeTown x = new BikeTown();
    for (int p = 0; p < racks.length; p++) Due.is("post " + p, x.post(20 * p, 0, racks[p]), p);
    return x;
  }

  private static void bikes(BikeTown x, int... homes) {
    for (int b = 0; b < homes.length; b++) Due.is("bike " + b, x.bike(homes[b]), b);
  }

  private static void line(BikeTown x, int i, int... due) {
    for (int w = 0; w < due.length; w++) Due.is("line " + i + ", " + w, x.log(i, w), due[w]);
  }

  // ---- 1

  private static void ends1() {
    BikeTown x = new BikeTown();
    Due.is("least of all", x.post(0, 0, 1), 0);
    Due.is("most of all", x.post(100, 100, 20), 1);
    for (int i = 2; i < 12; i++) Due.is("post " + i, x.post(50, 50, 20), i);
    for (int i = 0; i < 20; i++) Due.is("bike " + i, x.bike(1), i);
    Due.is("20 racks hold 20", x.bike(1), BikeTown.NO);
    Due.is("1 rack holds 1", x.bike(0), 20);
    Due.is("and no more", x.bike(0), BikeTown.NO);
    Due.is("price 0", x.price(11, 0), 10);
    Due.is("price 99", x.price(11, 99), 0);
    Due.is("10 at first", x.price(11, 99), 99);
    Due.is("last post", x.postAt(11, 3), 99);
    for (int k = 0; k < 4; k++) Due.is("least of kind " + k, x.kind(k, 0, 0), 1);
    for (int k = 0; k < 4; k++) Due.is("most of kind " + k, x.kind(k, 99, 60), 1);
    Due.is("first minute", x.rider(0, 0, 11, 0), 0);
    Due.is("last minute", x.rider(1439, 11, 0, 3), 1);
    x.step(1440);
    Due.is("came in the last minute", x.riderAt(1, 2), 1439);
  }

  /** 1 and the sizes of the differences of x and of y together by 10, cut. */
  private static void ways() {
    BikeTown x = new BikeTown();
    x.post(0, 0, 1);
    x.post(0, 9, 1);
    x.post(5, 5, 1);
    x.post(19, 0, 1);
    x.post(100, 100, 1);
    x.post(0, 0, 1);
    int[] due = {1, 1, 2, 2, 21, 1};
    for (int p = 0; p < 6; p++) {
      Due.is("way to " + p, x.way(0, p), due[p]);
      Due.is("way back from " + p, x.way(p, 0), due[p]);
    }
    Due.is("the differences, cut together: 5 and 4", x.way(1, 2), 1);
    Due.is("14 and 5", x.way(2, 3), 2);
  }

  // ---- 2, rides that end

  /** Two rides end in one minute at one rack: by riders, whoever came first. */
  private static void lastRack() {
    BikeTown x = new BikeTown();
    x.post(0, 0, 2);
    x.post(20, 0, 1);
    x.post(40, 9, 2);
    x.post(30, 0, 2);
    bikes(x, 0, 3);
    x.rider(1, 3, 1, 0);
    x.rider(0, 0, 1, 0);
    x.step(4);
    Due.is("rider 0 has the rack", x.riderAt(0, 3), 3);
    Due.is("rider 1, who came first, has none", x.riderAt(1, 0), RIDES);
    Due.is("goes to the nearest", x.bikeAt(0, 1), 3);
    line(x, 2, 2, 3, 1, 0, 1);
    x.step(2);
    Due.is("2 minutes later it ends there", x.riderAt(1, 3), 5);
    Due.is("where", x.riderAt(1, 4), 3);
    Due.is("wear of both ways", x.bikeAt(0, 2), 5);
  }

  /** A rack that an earlier ride of the minute has taken is not free as of now. */
  private static void freeAsOfNow() {
    BikeTown x = new BikeTown();
    x.post(50, 0, 3);
    x.post(50, 30, 1);
    x.post(50, 40, 1);
    x.post(50, 60, 3);
    bikes(x, 0, 0, 1);
    x.rider(0, 0, 2, 0);
    x.rider(1, 0, 1, 0);
    x.step(6);
    Due.is("rider 0 ended in minute 5 at post 2", x.riderAt(0, 3), 5);
    Due.is("rider 1, in minute 5 at full post 1: 2 is full as of now, 3 and 0 are as far", x.bikeAt(1, 1), 0);
    for (int came = 2; came <= 3; came++) {
      BikeTown y = new BikeTown();
      y.post(0, 0, 2);
      y.post(20, 0, 1);
      y.post(30, 0, 1);
      bikes(y, 0, 1, 2);
      y.rider(0, 0, 1, 0);
      y.rider(came, 2, 0, 0);
      y.step(4);
      Due.is("the bike of post 2 was taken", y.riderAt(1, 2), came);
      Due.is("free if it was taken ahead of minute 3, not behind the rides of it", y.bikeAt(0, 1), came == 2 ? 2 : 0);
    }
  }

  /** The rack that was free then is taken as it comes: there likewise. */
  private static void nearestLikewise() {
    BikeTown x = row(2, 1, 1, 2);
    bikes(x, 0, 1, 3);
    x.rider(0, 0, 1, 0);
    x.rider(2, 3, 2, 0);
    x.step(1);
    x.open(0, false);
    x.step(3);
    Due.is("minute 3: on to post 2, for 0 is closed", x.bikeAt(0, 1), 2);
    x.step(2);
    Due.is("minute 5: another one has that rack", x.riderAt(1, 3), 5);
    x.step(1);
    Due.is("minute 6: on to post 3", x.bikeAt(0, 1), 3);
    x.step(3);
    Due.is("minute 9", x.riderAt(0, 3), 9);
    Due.is("there", x.riderAt(0, 4), 3);
    Due.is("all minutes", x.bikeAt(0, 2), 9);
  }

  private static void oneMinuteLater() {
    BikeTown x = row(1, 1);
    bikes(x, 0, 1);
    x.rider(0, 0, 1, 0);
    x.step(1);
    x.open(0, false);
    x.step(3);
    Due.is("minute 3: none is free", x.riderAt(0, 0), RIDES);
    Due.is("here", x.bikeAt(0, 1), 1);
    x.open(0, true);
    x.step(1);
    Due.is("minute 4: post 0 is open again", x.bikeAt(0, 1), 0);
    x.step(2);
    Due.is("minute 6", x.riderAt(0, 0), RIDES);
    x.step(1);
    Due.is("minute 7", x.riderAt(0, 3), 7);
  }

  private static void closedAsItComes() {
    BikeTown x = row(2, 2, 2);
    bikes(x, 0);
    x.rider(0, 0, 1, 0);
    x.step(3);
    x.open(1, false);
    x.step(1);
    Due.is("racks free, but closed: back to the least of like ones", x.bikeAt(0, 1), 0);
    BikeTown y = row(2, 2);
    bikes(y, 0);
    y.rider(0, 0, 1, 0);
    y.open(1, false);
    y.step(3);
    y.open(1, true);
    y.step(1);
    Due.is("open again in the minute it comes", y.riderAt(0, 3), 3);
  }

  // ---- 2, wear

  /** Worn at 500 at first: 50 rides of 10 minutes, and one ride for long. */
  private static void wornAtFirst() {
    BikeTown x = new BikeTown();
    x.post(0, 0, 2);
    x.post(0, 90, 2);
    bikes(x, 0);
    for (int r = 0; r < 51; r++) x.rider(10 * r, r % 2, 1 - r % 2, 0);
    x.step(500);
    Due.is("49 rides", x.bikeAt(0, 2), 490);
    Due.is("the 50th ride", x.bikeAt(0, 0), RIDDEN);
    Due.is("well", x.bikeAt(0, 3), 0);
    x.step(1);
    Due.is("50 rides", x.bikeAt(0, 2), 500);
    Due.is("worn", x.bikeAt(0, 3), ON);
    Due.is("nobody rides it", x.riderAt(50, 0), WAITS);
    Due.is("499 is below", wearAfter(500, 499), 0);
    Due.is("500 is not", wearAfter(500, 500), 1);
  }

  /** Whether a bike with this wear, ridden in one ride that finds no rack for long, is faulty. */
  private static int wearAfter(int worn, int wear) {
    BikeTown x = row(1, 1);
    bikes(x, 0, 1);
    if (worn != 500) x.shop(60, worn);
    x.rider(0, 0, 1, 0);
    x.step(1);
    x.open(0, false);
    x.step(wear - 1);
    x.steal(1);
    x.step(1);
    Due.is("wear", x.bikeAt(0, 2), wear);
    Due.is("left", x.riderAt(0, 3), wear);
    return x.bikeAt(0, 3);
  }

  private static void wornAtItsEnds() {
    Due.is("worn 4, wear 3", wearAfter(4, 3), 0);
    Due.is("worn 3, wear 3", wearAfter(3, 3), 1);
    Due.is("worn 1", wearAfter(1, 3), 1);
    Due.is("worn 5000, wear 1400", wearAfter(5000, 1400), 0);
    Due.is("worn 1400, wear 1400", wearAfter(1400, 1400), 1);
    Due.is("worn 1401, wear 1400", wearAfter(1401, 1400), 0);
  }

  /** Wear adds up from ride to ride, within the day alone. */
  private static void wearOfManyRides() {
    BikeTown x = row(2, 2);
    bikes(x, 0);
    x.rider(0, 0, 1, 0);
    x.rider(3, 1, 0, 0);
    x.shop(60, 6);
    x.step(7);
    Due.is("3 and 3", x.bikeAt(0, 2), 6);
    Due.is("worn", x.bikeAt(0, 3), ON);
    Due.is("not among the well", x.postAt(0, 1), 0);
    x.endDay(0);
    Due.is("0 as the day begins", x.bikeAt(0, 2), 0);
    Due.is("well as the day begins", x.bikeAt(0, 3), 0);
    Due.is("among the well", x.postAt(0, 1), 1);
    x.step(3);
    Due.is("ridden anew", x.bikeAt(0, 0), RIDDEN);
  }

  // ---- 2, riders

  private static void limitAndPrice() {
    BikeTown x = row(6, 6);
    bikes(x, 0, 0, 0);
    x.kind(0, 0, 5);
    x.kind(1, 99, 5);
    x.price(0, 0);
    x.rider(0, 0, 1, 0);
    x.step(1);
    Due.is("limit 0, price 0", x.riderAt(0, 0), RIDES);
    Due.is("pays 0", x.riderAt(0, 5), 0);
    x.price(0, 1);
    x.rider(1, 0, 1, 0);
    x.step(1);
    Due.is("limit 0, price 1", x.riderAt(1, 0), DEAR);
    x.price(0, 99);
    x.rider(2, 0, 1, 1);
    x.rider(2, 0, 1, 2);
    x.step(1);
    Due.is("limit 99, price 99", x.riderAt(2, 0), RIDES);
    Due.is("pays 99", x.riderAt(2, 5), 99);
    Due.is("limit 20 at first", x.riderAt(3, 0), DEAR);
    x.price(0, 20);
    x.rider(3, 0, 1, 2);
    x.step(1);
    Due.is("limit 20 at first, price 20", x.riderAt(4, 0), RIDES);
    x.price(0, 21);
    x.rider(4, 0, 1, 3);
    x.step(1);
    Due.is("limit 20 at first, price 21, none there: dear all the same", x.riderAt(5, 0), DEAR);
    Due.is("paid", x.count(7), 119);
  }

  private static void patienceAtItsEnds() {
    BikeTown x = row(1, 1);
    for (int k = 0; k < 3; k++) x.kind(k, 20, k == 2 ? 60 : k);
    for (int k = 0; k < 4; k++) x.rider(10, 0, 1, k);
    x.step(11);
    Due.is("0: at once", x.riderAt(0, 0), EMPTY);
    Due.is("1: waits", x.riderAt(1, 0), WAITS);
    line(x, 0, 4, 10, 0, 0, -1);
    x.step(1);
    Due.is("1: a minute later", x.riderAt(1, 0), EMPTY);
    x.step(3);
    Due.is("5 at first: 4 minutes behind", x.riderAt(3, 0), WAITS);
    x.step(1);
    Due.is("5 at first: 5 minutes behind", x.riderAt(3, 0), EMPTY);
    line(x, 2, 4, 15, 0, 3, -1);
    x.step(54);
    Due.is("60: 59 minutes behind", x.riderAt(2, 0), WAITS);
    x.step(1);
    Due.is("60: 60 minutes behind", x.riderAt(2, 0), EMPTY);
  }

  /** Less patience, told to who waits for longer already: lost in the next minute; a bike there comes first. */
  private static void patienceOrMore() {
    BikeTown x = row(2, 1);
    x.kind(0, 20, 60);
    x.rider(0, 0, 1, 0);
    x.step(20);
    x.kind(0, 20, 3);
    Due.is("not before a minute", x.riderAt(0, 0), WAITS);
    x.step(1);
    Due.is("20 is more than 3", x.riderAt(0, 0), EMPTY);
    BikeTown y = row(2, 2);
    bikes(y, 1);
    y.kind(0, 20, 60);
    y.rider(0, 0, 1, 0);
    y.step(20);
    y.kind(0, 20, 0);
    y.steal(0);
    y.find(0, 0);
    y.step(1);
    Due.is("out of patience, but a bike is there", y.riderAt(0, 0), RIDES);
  }

  private static void comesOnceOnly() {
    BikeTown x = row(3, 3);
    bikes(x, 0, 0);
    x.rider(2, 0, 1, 0);
    x.step(20);
    Due.is("done", x.riderAt(0, 0), DONE);
    Due.is("taken once", x.postAt(0, 6), 1);
    Due.is("lines", x.count(5), 2);
  }

  private static void lostWhereItIsShut() {
    BikeTown x = row(2, 2);
    x.rider(0, 0, 1, 0);
    x.step(1);
    x.open(0, false);
    x.step(4);
    Due.is("waits at a closed post", x.riderAt(0, 0), WAITS);
    Due.is("counted there", x.postAt(0, 5), 1);
    x.step(1);
    Due.is("empty, though closed", x.riderAt(0, 0), EMPTY);
    line(x, 1, 4, 5, 0, 0, -1);
    BikeTown y = row(2, 2);
    bikes(y, 1);
    y.rider(0, 0, 1, 0);
    y.step(1);
    y.price(0, 21);
    y.steal(0);
    y.find(0, 0);
    y.step(5);
    Due.is("empty, though too dear and a bike is there", y.riderAt(0, 0), EMPTY);
    Due.is("lost", y.postAt(0, 7), 1);
    Due.is("of none taken", y.postAt(0, 6), 0);
  }

  private static void leastWearLeastNumber() {
    BikeTown x = row(4, 4);
    bikes(x, 1, 0, 0);
    x.rider(0, 0, 1, 0);
    x.rider(4, 1, 0, 0);
    x.rider(8, 0, 1, 0);
    x.rider(8, 0, 1, 0);
    x.step(1);
    Due.is("of like ones the least number", x.riderAt(0, 1), 1);
    x.step(4);
    Due.is("the least wear, of less number", x.riderAt(1, 1), 0);
    x.step(4);
    Due.is("the least wear, of more number", x.riderAt(2, 1), 2);
    Due.is("then the other", x.riderAt(3, 1), 0);
  }

  // ---- 2, the rest

  private static void emptyMinutes() {
    BikeTown x = row(2, 2, 2);
    bikes(x, 0, 1);
    x.rider(0, 0, 1, 0);
    x.faulty(1);
    x.step(1);
    Due.is("taken in this minute: behind all it is empty", x.postAt(0, 8), 1);
    Due.is("a faulty one does not count", x.postAt(1, 8), 1);
    x.open(2, false);
    x.step(1);
    Due.is("closed, too", x.postAt(2, 8), 2);
    x.step(2);
    Due.is("minute 3 has a bike at post 1", x.postAt(1, 8), 3);
    BikeTown y = row(2, 2);
    bikes(y, 0);
    y.rider(0, 0, 1, 0);
    y.rider(3, 1, 0, 0);
    y.step(4);
    Due.is("came and went in one minute: empty", y.postAt(1, 8), 4);
    BikeTown z = row(1);
    z.step(1440);
    Due.is("all of the day", z.postAt(0, 8), 1440);
  }

  /** A MINUTE: rides that end, the shop, rules, the van, riders: each sees what came ahead of it, nothing behind it. */
  private static void oneAfterAnother() {
    BikeTown ride = row(1, 1);
    bikes(ride, 0);
    ride.rider(0, 0, 1, 0);
    Due.rule(ride, 26, 13, 1, 17, 21, 13, 1, 20, 28);
    ride.step(4);
    line(ride, 2, 11, 3, 1, -1, -1);
    Due.is("a rule sees the ride that ended, and closes behind it", ride.riderAt(0, 3), 3);

    BikeTown mended = row(1);
    bikes(mended, 0);
    mended.shop(3, 500);
    Due.rule(mended, 24, 13, 0, 20, 30);
    Due.rule(mended, 21, 13, 1, 20, 28);
    mended.faulty(0);
    mended.step(4);
    line(mended, 1, 8, 3, 0, -1, 0);
    line(mended, 2, 11, 3, 0, -1, -1);

    BikeTown van = row(1);
    bikes(van, 0);
    van.stop(0, 1);
    Due.rule(van, 21, 13, 1, 20, 23, 13, 5);
    van.step(1);
    Due.is("a rule sees a bike that the van is still to take", van.postAt(0, 3), 5);

    BikeTown rider = row(1, 1);
    bikes(rider, 0);
    rider.stop(0, 1);
    rider.rider(0, 0, 1, 0);
    rider.step(1);
    Due.is("the van takes it ahead of the rider", rider.riderAt(0, 0), WAITS);
    rider.stop(0, -1);
    rider.step(1);
    Due.is("and leaves it ahead of him", rider.riderAt(0, 2), 1);

    BikeTown price = row(1, 1);
    bikes(price, 0);
    Due.rule(price, 24, 13, 3, 20, 23, 13, 1, 7);
    price.rider(3, 0, 1, 0);
    price.step(4);
    Due.is("a price of the minute is paid in it", price.riderAt(0, 5), 17);
  }

  private static void byHandAtTheMinute() {
    BikeTown x = row(2, 2);
    bikes(x, 0);
    x.open(1, false);
    x.step(7);
    x.open(1, true);
    x.steal(0);
    line(x, 0, 11, 0, 1, -1, -1);
    line(x, 1, 12, 7, 1, -1, -1);
    line(x, 2, 9, 7, 0, -1, 0);
    x.step(1433);
    x.find(0, 1);
    line(x, 3, 10, 1440, 1, -1, 0);
    Due.is("at the day's end, too", x.bikeAt(0, 1), 1);
    Due.is("as of the end: not yet", x.asOf(1, 1440), 0);
    Due.is("things", x.count(8), 4);
  }

  // ---- 3

  private static void ruleFillsTheText() {
    BikeTown x = row(1);
    x.hush();
    for (int i = 0; i < 17; i++) {
      x.say(1);
      x.say(10);
    }
    int[] end = {1, 14, 1, 6, 20, 28};
    for (int s : end) x.say(s);
    Due.is("40 symbols", x.count(9), 40);
    Due.is("no fault", x.fault(), -1);
    Due.is("a rule", x.rule(), 0);
    x.step(1);
    Due.is("18 is above 16", x.postAt(0, 4), 0);
    x.hush();
    int[] price = {1, 13, 1, 20, 23, 13, 9, 9, 9};
    for (int s : price) x.say(s);
    for (int i = 0; i < 15; i++) {
      x.say(11);
      x.say(6);
    }
    Due.is("39 symbols", x.say(11), 40);
    Due.is("ends too early", x.fault(), 40);
    x.hush();
    for (int s : price) x.say(s);
    x.say(9);
    Due.is("a fourth digit", x.fault(), 9);
  }

  private static void digitsAndBrackets() {
    BikeTown x = new BikeTown();
    Due.text(x, 9, 9, 9, 13, 9, 9, 9, 20, 28);
    Due.is("three digits", x.fault(), -1);
    Due.text(x, 0, 0, 0, 0, 13, 1, 20, 28);
    Due.is("four, all 0", x.fault(), 3);
    Due.text(x, 1, 13, 0, 0, 0, 1, 20, 28);
    Due.is("four, behind the sign", x.fault(), 5);
    Due.text(x, 1, 2, 3, 10, 4, 5, 6, 13, 7, 8, 9, 20, 28);
    Due.is("three again behind a sign", x.fault(), -1);
    Due.text(x, 15, 15, 15, 15, 15, 15, 15, 15, 1, 13, 1, 16, 16, 16, 16, 16, 16, 16, 16, 20, 28);
    Due.is("8 open", x.fault(), -1);
    Due.text(x, 15, 15, 15, 15, 15, 15, 15, 19, 15, 15, 1, 13, 1);
    Due.is("the 9th, behind a NOT", x.fault(), 9);
    Due.text(x, 15, 15, 15, 15, 15, 15, 15, 15, 1, 13, 1, 16, 17, 15, 1, 13, 1, 17, 15);
    Due.is("8, 7, 8, then the 9th", x.fault(), 18);
    Due.text(x, 15, 15, 15, 15, 15, 15, 15, 15, 1, 13, 1, 16, 16, 16, 16, 16, 16, 16, 20, 28);
    Due.is("one is still open at THEN", x.fault(), 18);
    Due.text(x, 1, 13, 1, 16);
    Due.is("none is open at )", x.fault(), 3);
    for (int s = 0; s <= 30; s++) {
      Due.text(x, 1, 13, 1, 20, 28, s);
      Due.is("behind CLOSE: " + s, x.fault(), 5);
      Due.text(x, 1, 13, 1, 20, 23, 13, 1, s, 1);
      boolean goesOn = s <= 9 || s == 10 || s == 11;
      Due.is("behind PRICE = 1: " + s, x.fault(), goesOn ? -1 : 7);
      Due.text(x, s);
      boolean begins = s <= 9 || s == 15 || s == 19 || s >= 21 && s <= 27;
      Due.is("first: " + s, x.fault(), begins ? 1 : 0);
      Due.text(x, 21, s);
      boolean onSum = s >= 10 && s <= 14;
      Due.is("behind BIKES: " + s, x.fault(), onSum ? 2 : 1);
      Due.text(x, 21, 12, s);
      boolean unit = s <= 9 || s >= 21 && s <= 27;
      Due.is("behind BIKES <: " + s, x.fault(), unit ? 3 : 2);
      Due.text(x, 21, 12, 22, s);
      boolean onTerm = s == 10 || s == 11 || s == 17 || s == 18 || s == 20;
      Due.is("behind BIKES < FREE: " + s, x.fault(), onTerm ? 4 : 3);
      Due.text(x, 15, 21, 12, 22, s);
      Due.is("behind ( BIKES < FREE: " + s, x.fault(), onTerm && s != 20 || s == 16 ? 5 : 4);
      Due.text(x, 15, 21, 12, 22, 16, s);
      Due.is("behind ( BIKES < FREE ): " + s, x.fault(), s == 17 || s == 18 || s == 20 ? 6 : 5);
      Due.text(x, 21, 12, 22, 20, s);
      Due.is("behind THEN: " + s, x.fault(), s >= 28 ? -1 : s == 23 ? 5 : 4);
      Due.text(x, 21, 12, 22, 20, 23, s);
      Due.is("behind THEN PRICE: " + s, x.fault(), s == 13 ? 6 : 5);
      Due.text(x, 21, 12, 22, 20, 23, 13, s);
      Due.is("behind THEN PRICE =: " + s, x.fault(), unit ? -1 : 6);
      Due.text(x, 19, s);
      Due.is("behind NOT: " + s, x.fault(), begins ? 2 : 1);
      Due.text(x, 21, 10, s);
      Due.is("behind BIKES +: " + s, x.fault(), unit ? 3 : 2);
      Due.text(x, 21, 12, 22, 17, s);
      Due.is("behind AND: " + s, x.fault(), begins ? 5 : 4);
      Due.text(x, 21, 12, 22, 18, s);
      Due.is("behind OR: " + s, x.fault(), begins ? 5 : 4);
    }
  }

  /** MINUTE by 60, cut. */
  private static void hourIsCut() {
    BikeTown x = row(1);
    Due.rule(x, 1, 13, 1, 20, 23, 13, 25);
    int[] at = {0, 59, 60, 119, 120, 1439};
    int[] due = {0, 0, 1, 1, 2, 23};
    for (int i = 0; i < at.length; i++) {
      x.step(at[i] + 1 - x.count(4));
      Due.is("hour of minute " + at[i], x.postAt(0, 3), due[i]);
    }
    BikeTown y = row(1);
    Due.rule(y, 24, 13, 1, 4, 3, 10, 9, 9, 9, 10, 2, 9, 7, 20, 28);
    y.step(1439);
    Due.is("minute 1438", y.postAt(0, 4), 1);
    y.step(1);
    Due.is("minute 1439", y.postAt(0, 4), 0);
  }

  /** Who comes in a minute does not wait as it begins; who is lost in it does. */
  private static void waitingAsItBegins() {
    BikeTown x = row(2, 2);
    x.kind(0, 20, 2);
    x.rider(1, 0, 1, 0);
    x.rider(1, 1, 0, 0);
    x.rider(2, 0, 1, 0);
    Due.rule(x, 26, 13, 0, 20, 23, 13, 27);
    int[] due = {0, 0, 1, 2, 1, 0};
    for (int m = 0; m < due.length; m++) {
      x.step(1);
      Due.is("waiting as minute " + m + " begins", x.postAt(0, 3), due[m]);
    }
  }

  private static void priceIsBrought() {
    int[][] sums = {{9, 9}, {1, 0, 0}, {9, 9, 9, 10, 9, 9, 9}, {0}, {0, 11, 1}, {5, 11, 9, 9, 9}, {1, 0, 0, 11, 1}};
    int[] due = {99, 99, 99, 0, 0, 0, 99};
    for (int i = 0; i < sums.length; i++) {
      BikeTown x = row(1);
      int[] text = java.util.Arrays.copyOf(new int[] {1, 13, 1, 20, 23, 13}, 6 + sums[i].length);
      System.arraycopy(sums[i], 0, text, 6, sums[i].length);
      Due.is("rule", Due.rule(x, text), 0);
      x.step(1);
      Due.is("price by sum " + i, x.postAt(0, 3), due[i]);
    }
    BikeTown y = row(1);
    Due.rule(y, 0, 11, 1, 12, 0, 20, 28);
    y.step(1);
    Due.is("a sum below 0 in a test", y.postAt(0, 4), 0);
  }

  /** What held in one rule, or in one pair of brackets, is not left for the next. */
  private static void eachTestAnew() {
    BikeTown x = row(1, 1);
    Due.rule(x, 1, 13, 1, 18, 1, 13, 2, 20, 23, 13, 5);
    Due.rule(x, 1, 13, 2, 20, 28);
    Due.rule(x, 15, 1, 13, 1, 18, 1, 13, 2, 16, 17, 15, 1, 13, 2, 18, 1, 13, 3, 16, 20, 28);
    Due.rule(x, 19, 15, 1, 13, 2, 16, 17, 15, 1, 13, 2, 16, 20, 28);
    Due.rule(x, 15, 15, 1, 13, 1, 18, 1, 13, 2, 16, 18, 1, 13, 2, 16, 17, 1, 13, 3, 20, 28);
    x.step(2);
    for (int p = 0; p < 2; p++) Due.is("rule 0 holds", x.postAt(p, 3), 5);
    for (int p = 0; p < 2; p++) Due.is("none of the others does", x.postAt(p, 4), 1);
    Due.is("no line", x.count(5), 0);
  }

  private static void fixAmongSixty() {
    BikeTown x = row(20, 20, 20);
    for (int b = 0; b < 60; b++) x.bike(b / 20);
    Due.rule(x, 1, 13, 1, 20, 30);
    x.step(1);
    Due.is("none of 60 is faulty", x.count(5), 0);
    x.faulty(59);
    x.faulty(0);
    x.step(1);
    line(x, 0, 7, 1, 0, -1, 0);
    line(x, 1, 7, 1, 2, -1, 59);
    Due.is("no more", x.count(5), 2);
  }

  private static void nothingToFix() {
    BikeTown x = row(2, 2);
    bikes(x, 0, 1);
    Due.rule(x, 1, 13, 1, 20, 30);
    x.step(3);
    Due.is("none is faulty", x.count(5), 0);
    x.faulty(1);
    x.step(1);
    Due.is("one is", x.bikeAt(1, 0), IN_SHOP);
    Due.is("its post", x.bikeAt(1, 1), 1);
    Due.is("a rack is free", x.postAt(1, 2), 2);
    x.step(1);
    Due.is("once", x.count(5), 1);
  }

  /** A rule that prices, closes or opens fixes nothing, and the other way round. */
  private static void actsAlone() {
    int[][] acts = {{23, 13, 7}, {28}, {29}, {30}};
    for (int i = 0; i < 4; i++) {
      for (int isOpen = 0; isOpen < 2; isOpen++) {
        BikeTown x = row(1);
        bikes(x, 0);
        x.faulty(0);
        if (isOpen == 0) x.open(0, false);
        int[] text = java.util.Arrays.copyOf(new int[] {1, 13, 1, 20}, 4 + acts[i].length);
        System.arraycopy(acts[i], 0, text, 4, acts[i].length);
        Due.is("rule", Due.rule(x, text), 0);
        x.step(1);
        Due.is("price by act " + i, x.postAt(0, 3), i == 0 ? 7 : 10);
        Due.is("open by act " + i, x.postAt(0, 4), i == 1 ? 0 : i == 2 ? 1 : isOpen);
        Due.is("bike by act " + i, x.bikeAt(0, 0), i == 3 ? IN_SHOP : 0);
        boolean isLine = i == 1 && isOpen == 1 || i == 2 && isOpen == 0 || i == 3;
        Due.is("lines by act " + i, x.count(5), (isLine ? 1 : 0) + 1 - isOpen);
      }
    }
  }

  private static void rulesForAllPosts() {
    BikeTown x = new BikeTown();
    for (int p = 0; p < 12; p++) x.post(p, p, 1);
    Due.rule(x, 1, 13, 1, 20, 23, 13, 26);
    x.step(1);
    for (int p = 0; p < 12; p++) Due.is("post " + p, x.postAt(p, 3), p);
    BikeTown none = new BikeTown();
    Due.rule(none, 1, 13, 1, 20, 28);
    Due.is("no post: minutes go", none.step(1440), 1440);
    Due.is("no line", none.count(5), 0);
  }

  private static void tenRules() {
    BikeTown x = row(1);
    Due.text(x, 1, 13, 1, 20, 23, 13, 23, 10, 1);
    for (int i = 0; i < 10; i++) Due.is("rule " + i, x.rule(), i);
    x.step(1);
    Due.is("all ten", x.postAt(0, 3), 20);
    for (int i = 0; i < 10; i += 9) Due.is("off " + i, x.off(i, true), 1);
    x.step(1);
    Due.is("but the first and the last", x.postAt(0, 3), 28);
    Due.is("on", x.off(9, false), 1);
    x.step(1);
    Due.is("but the first", x.postAt(0, 3), 37);
  }

  // ---- 4, the van

  private static void vanTakesTwelve() {
    BikeTown x = row(14, 14);
    for (int b = 0; b < 14; b++) x.bike(0);
    x.faulty(0);
    x.stop(0, 12);
    x.stop(0, 1);
    x.step(1);
    Due.is("12", x.van(1), 12);
    Due.is("the faulty one and one more stay", x.postAt(0, 0), 2);
    Due.is("no line more", x.count(5), 12);
    Due.is("by numbers", x.log(0, 4), 1);
    x.stop(0, -1);
    x.stop(0, 12);
    x.step(1);
    Due.is("one out, one in", x.van(1), 12);
    line(x, 12, 6, 1, 0, -1, 1);
    line(x, 13, 5, 1, 0, -1, 1);
    BikeTown y = row(3);
    bikes(y, 0, 0);
    y.stop(0, 12);
    y.step(1);
    Due.is("as many as there are", y.van(1), 2);
    Due.is("in the van", y.bikeAt(1, 0), IN_VAN);
    y.stop(0, 0);
    y.step(1);
    Due.is("0 does nothing", y.van(1), 2);
    Due.is("but is done", y.van(3), 0);
  }

  private static void vanLeavesWhatFits() {
    BikeTown x = row(12, 5);
    for (int b = 0; b < 12; b++) x.bike(0);
    x.stop(0, 12);
    x.stop(1, -12);
    x.stop(0, -12);
    x.open(1, false);
    x.step(4);
    Due.is("5 racks, at a closed post", x.postAt(1, 0), 5);
    Due.is("7 are left in it", x.van(1), 7);
    for (int i = 0; i < 5; i++) line(x, 13 + i, 6, 3, 1, -1, i);
    x.step(3);
    Due.is("as many as it has", x.postAt(0, 0), 7);
    Due.is("none", x.van(1), 0);
    line(x, 18, 6, 6, 0, -1, 5);
    BikeTown y = row(2);
    y.stop(0, -12);
    y.step(1);
    Due.is("it had none", y.van(3), 0);
    Due.is("no line", y.count(5), 0);
  }

  private static void twentyStopsAtOnce() {
    BikeTown x = row(3, 3);
    bikes(x, 0, 0);
    for (int i = 1; i <= 20; i++) Due.is("stop " + i, x.stop(0, i % 2 == 1 ? 1 : -1), i);
    x.step(1);
    Due.is("all are done", x.van(3), 0);
    Due.is("lines", x.count(5), 20);
    Due.is("not under way", x.van(2), -1);
    for (int i = 1; i <= 20; i++) Due.is("stop " + i, x.stop(1, 0), i);
    x.step(3);
    Due.is("under way till minute 4", x.van(3), 20);
    Due.is("comes at", x.van(2), 4);
    x.step(1);
    Due.is("all are done there, too", x.van(3), 0);
    Due.is("at", x.van(0), 1);
  }

  private static void vanGoesOn() {
    BikeTown x = row(3, 3, 3);
    bikes(x, 1);
    x.stop(1, 1);
    x.step(2);
    Due.is("under way", x.van(2), 3);
    x.stop(2, -1);
    x.stop(2, 1);
    x.step(1);
    Due.is("was last at", x.van(0), 0);
    x.step(1);
    Due.is("minute 3", x.van(0), 1);
    Due.is("sets out in the same minute", x.van(2), 6);
    Due.is("has it", x.van(1), 1);
    x.step(3);
    Due.is("left and took it in one minute", x.van(1), 1);
    line(x, 1, 6, 6, 2, -1, 0);
    line(x, 2, 5, 6, 2, -1, 0);
    Due.is("stays", x.van(0), 2);
    x.step(10);
    Due.is("till more is told", x.van(2), -1);
    x.stop(2, -1);
    Due.is("not before a minute", x.van(1), 1);
    x.step(1);
    Due.is("at once, it is there", x.van(1), 0);
    line(x, 3, 6, 17, 2, -1, 0);
  }

  /** Another post at the same place is 1 minute off. */
  private static void vanAtLikePlace() {
    BikeTown x = new BikeTown();
    x.post(7, 7, 2);
    x.post(7, 7, 2);
    x.stop(1, 0);
    x.step(1);
    Due.is("sets out", x.van(2), 1);
    x.step(1);
    Due.is("is there", x.van(0), 1);
  }

  private static void vanAtTheDaysEnd() {
    BikeTown x = row(2, 2);
    bikes(x, 0);
    x.step(1439);
    x.stop(0, 1);
    x.stop(1, -1);
    x.step(1);
    Due.is("comes on no minute of the day", x.van(2), 1442);
    Due.is("has it", x.van(1), 1);
    x.stop(0, 0);
    Due.is("stops", x.van(3), 2);
    x.endDay(0);
    int[] due = {0, 0, -1, 0};
    for (int w = 0; w < 4; w++) Due.is("van " + w, x.van(w), due[w]);
    Due.is("the bike is back", x.bikeAt(0, 0), 0);
    x.step(9);
    Due.is("the list is empty", x.van(0), 0);
  }

  // ---- 4, the shop

  private static BikeTown inShop(int mend) {
    BikeTown x = row(1);
    bikes(x, 0);
    if (mend != 60) x.shop(mend, 500);
    Due.rule(x, 1, 13, 1, 20, 30);
    x.faulty(0);
    x.step(1);
    Due.is("in the shop", x.bikeAt(0, 0), IN_SHOP);
    return x;
  }

  private static void mendAtItsEnds() {
    for (int mend : new int[] {1, 2, 60, 600}) {
      BikeTown x = inShop(mend);
      if (mend > 1) x.step(mend - 1);
      Due.is("a minute too early for " + mend, x.bikeAt(0, 0), IN_SHOP);
      x.step(1);
      Due.is("mended in " + mend, x.bikeAt(0, 0), 0);
      Due.is("well", x.bikeAt(0, 3), 0);
      line(x, 1, 8, mend, 0, -1, 0);
    }
  }

  private static void mendAsItWasThen() {
    BikeTown x = inShop(5);
    x.shop(600, 500);
    x.step(4);
    Due.is("minute 4", x.bikeAt(0, 0), IN_SHOP);
    x.step(1);
    Due.is("minute 5", x.bikeAt(0, 0), 0);
  }

  /** Two that are mended in one minute for one rack: the less number, though it went there later. */
  private static void mendByBikes() {
    BikeTown x = row(2, 2);
    bikes(x, 0, 0, 1, 1);
    x.shop(2, 500);
    Due.rule(x, 24, 12, 2, 20, 30);
    x.faulty(1);
    x.step(1);
    x.faulty(0);
    x.step(1);
    Due.is("both are in the shop", x.bikeAt(0, 0) + x.bikeAt(1, 0), 2 * IN_SHOP);
    x.steal(2);
    x.steal(3);
    x.find(2, 0);
    x.find(3, 0);
    x.step(3);
    Due.is("no rack", x.bikeAt(0, 0) + x.bikeAt(1, 0), 2 * IN_SHOP);
    x.steal(3);
    Due.is("gone", x.bikeAt(3, 0), GONE);
    x.step(1);
    Due.is("0 is there", x.bikeAt(0, 0), 0);
    Due.is("1 is tried each minute again", x.bikeAt(1, 0), IN_SHOP);
    x.steal(2);
    x.step(1);
    Due.is("now", x.bikeAt(1, 0), 0);
  }

  private static void mendBehindRides() {
    BikeTown x = row(1, 2);
    bikes(x, 0, 1);
    x.shop(4, 500);
    Due.rule(x, 26, 13, 0, 20, 30);
    x.faulty(0);
    x.rider(1, 1, 0, 0);
    x.step(5);
    Due.is("the ride of minute 4 has the rack", x.bikeAt(1, 0), 0);
    Due.is("the mended one none", x.bikeAt(0, 0), IN_SHOP);
    BikeTown y = row(1, 2);
    bikes(y, 0, 1);
    y.shop(3, 500);
    Due.rule(y, 26, 13, 0, 20, 30);
    y.faulty(0);
    y.rider(1, 1, 0, 0);
    y.step(5);
    Due.is("mended a minute sooner, it has the rack", y.bikeAt(0, 0), 0);
    Due.is("the ride goes back", y.bikeAt(1, 1), 1);
  }
}
