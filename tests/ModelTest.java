/** Long runs of calls, made by numbers that follow from a seed, in which BikeTown and Model must answer alike. */
public final class ModelTest {
  private long seed;
  private int below(int n) {
    seed = seed * 6364136223846793005L + 1442695040888963407L;
    return (int) ((seed >>> 33) % n);
  }
  private boolean oneIn(int n) { return below(n) == 0; }
  private int from(int least, int most) { return least + below(most - least + 1); }
  /** Mostly a number as told, now and then one at or behind its ends. */
  private int about(int least, int most) {
    if (!oneIn(25)) return from(least, most);
    int[] edges = {least - 1, most + 1, least, most, Integer.MIN_VALUE, Integer.MAX_VALUE};
    return edges[below(edges.length)];
  }

  private final int run;
  private final BikeTown town = new BikeTown();
  private final Model model = new Model();
  private final StringBuilder calls = new StringBuilder();
  private boolean isWrong;

  private ModelTest(int run) {
    this.run = run;
    seed = 1000003L * run + 17;
    for (int i = 0; i < 5; i++) below(2);
  }

  private void due(String call, long got, long want) {
    calls.append(call).append(" = ").append(got).append('\n');
    if (got == want || isWrong) return;
    isWrong = true;
    System.out.println("run " + run + ": " + call + " answered " + got + ", due is " + want + "; the calls:");
    System.out.println(calls);
  }

  private void post(int x, int y, int n) { due("post(" + x + ", " + y + ", " + n + ")", town.post(x, y, n), model.post(x, y, n)); }
  private void bike(int p) { due("bike(" + p + ")", town.bike(p), model.bike(p)); }
  private void rider(int m, int p, int q, int k) {
    due("rider(" + m + ", " + p + ", " + q + ", " + k + ")", town.rider(m, p, q, k), model.rider(m, p, q, k));
  }
  private void step(int n) { due("step(" + n + ")", town.step(n), model.step(n)); }
  private void digest() { due("digest()", town.digest(), model.digest()); }
  private void say(int s) { due("say(" + s + ")", town.say(s), model.say(s)); }
  private void hush() { due("hush()", town.hush(), model.hush()); }

  private int aPost() { return about(0, Math.max(0, model.posts.size() - 1)); }
  private int aBike() { return about(0, Math.max(0, model.homes.size() - 1)); }

  // A text by the grammar.
  private void sayUnit() {
    if (oneIn(2)) { say(from(21, 27)); return; }
    for (int i = below(3); i >= 0; i--) if (i == 0 || oneIn(3)) say(below(10));
  }
  private void saySum() {
    sayUnit();
    while (oneIn(4)) { say(from(10, 11)); sayUnit(); }
  }
  private void sayTerm(int depth) {
    if (oneIn(5)) say(19);
    if (depth < 3 && oneIn(5)) { say(15); sayTest(depth + 1); say(16); return; }
    saySum(); say(from(12, 14)); saySum();
  }
  private void sayTest(int depth) {
    sayTerm(depth);
    while (oneIn(4)) { say(from(17, 18)); sayTerm(depth); }
  }
  private void sayRule() {
    hush();
    sayTest(0);
    say(20);
    int act = from(27, 30);
    if (act > 27) { say(act); }
    else { say(23); say(13); saySum(); }
    if (oneIn(8)) say(below(31));
    due("fault()", town.fault(), model.fault());
    due("rule()", town.rule(), model.rule());
  }
  private void sayAny() {
    if (oneIn(6)) hush();
    for (int i = below(6); i >= 0; i--) say(about(0, 30));
    due("fault()", town.fault(), model.fault());
    if (oneIn(3)) due("rule()", town.rule(), model.rule());
  }

  private void begin() {
    int size = oneIn(4) ? 100 : oneIn(2) ? 30 : 9, racks = oneIn(3) ? 20 : from(1, 4);
    int many = oneIn(5) ? 13 : from(2, 6);
    for (int i = 0; i < many; i++) post(about(0, size), about(0, size), about(1, racks));
    for (int i = oneIn(5) ? 70 : below(25); i > 0; i--) bike(aPost());
    for (int k = 0; k < 4; k++) if (oneIn(2)) kind();
    if (oneIn(2)) shop();
    int riders = oneIn(8) ? 210 : below(70), span = oneIn(4) ? 1439 : from(1, 90);
    for (int i = 0; i < riders; i++) rider(about(0, span), aPost(), aPost(), about(0, 3));
    for (int i = below(4); i > 0; i--) sayRule();
  }
  private void kind() {
    int k = about(0, 3), l = oneIn(2) ? about(0, 99) : about(5, 15), p = oneIn(3) ? about(0, 60) : about(0, 4);
    due("kind(" + k + ", " + l + ", " + p + ")", town.kind(k, l, p), model.kind(k, l, p));
  }
  private void shop() {
    int m = oneIn(4) ? about(1, 600) : from(1, 20), w = oneIn(4) ? about(1, 5000) : from(1, 30);
    due("shop(" + m + ", " + w + ")", town.shop(m, w), model.shop(m, w));
  }

  private void byHand() {
    int p = aPost(), b = aBike(), v = oneIn(2) ? about(0, 99) : from(5, 15);
    switch (below(7)) {
      case 0: due("price(" + p + ", " + v + ")", town.price(p, v), model.price(p, v)); break;
      case 1: { boolean is = !oneIn(3); due("open(" + p + ", " + is + ")", town.open(p, is), model.open(p, is)); break; }
      case 2: due("faulty(" + b + ")", town.faulty(b), model.faulty(b)); break;
      case 3: due("steal(" + b + ")", town.steal(b), model.steal(b)); break;
      case 4: due("find(" + b + ", " + p + ")", town.find(b, p), model.find(b, p)); break;
      default: { int n = about(-12, 12); due("stop(" + p + ", " + n + ")", town.stop(p, n), model.stop(p, n)); }
    }
  }

  private void look() {
    int p = aPost(), b = aBike(), r = about(0, Math.max(0, model.riders.size() - 1));
    int w = about(0, 4), h = oneIn(3) ? about(0, 23) : Math.min(23, model.now.m / 60);
    switch (below(13)) {
      case 0: due("bikeAt(" + b + ", " + w + ")", town.bikeAt(b, w), model.bikeAt(b, w)); break;
      case 1: w = about(0, 8); due("postAt(" + p + ", " + w + ")", town.postAt(p, w), model.postAt(p, w)); break;
      case 2: w = about(0, 5); due("riderAt(" + r + ", " + w + ")", town.riderAt(r, w), model.riderAt(r, w)); break;
      case 3: due("van(" + w + ")", town.van(w), model.van(w)); break;
      case 4: { int q = aPost(); due("way(" + p + ", " + q + ")", town.way(p, q), model.way(p, q)); break; }
      case 5: { int i = about(0, Math.max(0, model.lines())); due("log(" + i + ", " + w + ")", town.log(i, w), model.log(i, w)); break; }
      case 6: { int m = about(0, model.now.m); due("asOf(" + p + ", " + m + ")", town.asOf(p, m), model.asOf(p, m)); break; }
      case 7: w = about(0, 1); due("ends(" + p + ", " + h + ", " + w + ")", town.ends(p, h, w), model.ends(p, h, w)); break;
      case 8: {
        int day = about(0, 6);
        w = about(0, 1);
        h = about(0, 3);
        due("forecast(" + day + ", " + p + ", " + h + ", " + w + ")", town.forecast(day, p, h, w), model.forecast(day, p, h, w));
        break;
      }
      case 9: {
        int i = about(0, Math.max(0, model.rules.size() - 1));
        w = about(0, 3);
        due("whatIf(" + i + ", " + w + ")", town.whatIf(i, w), model.whatIf(i, w));
        break;
      }
      case 10: w = about(0, 9); due("count(" + w + ")", town.count(w), model.count(w)); break;
      case 11: {
        int i = about(0, Math.max(0, model.rules.size() - 1));
        boolean is = oneIn(2);
        due("off(" + i + ", " + is + ")", town.off(i, is), model.off(i, is));
        break;
      }
      default: digest();
    }
  }

  private void tools() {
    int p = aPost(), v = oneIn(3) ? about(-12, 12) : from(-3, 3), a = about(0, 4), b = about(0, 4), who = about(0, 1);
    int x = about(0, 100), y = about(0, 100), w = about(0, 1);
    switch (below(13)) {
      case 0: due("want(" + p + ", " + v + ")", town.want(p, v), model.want(p, v)); break;
      case 1: due("round()", town.round(), model.round()); break;
      case 2: v = about(0, 8); due("roundAt(" + v + ")", town.roundAt(v), model.roundAt(v)); break;
      case 3: case 4:
        v = oneIn(5) ? about(-10000, 10000) : below(5);
        due("gain(" + who + ", " + a + ", " + b + ", " + v + ")", town.gain(who, a, b, v), model.gain(who, a, b, v));
        break;
      case 5: due("still()", town.still(), model.still()); break;
      case 6: v = about(0, 6); due("stillAt(" + v + ")", town.stillAt(v), model.stillAt(v)); break;
      case 7: due("answers(" + a + ", " + b + ")", town.answers(a, b), model.answers(a, b)); break;
      case 8: due("site(" + x + ", " + y + ")", town.site(x, y), model.site(x, y)); break;
      case 9: v = about(1, 100); due("wish(" + x + ", " + y + ", " + v + ")", town.wish(x, y, v), model.wish(x, y, v)); break;
      case 10: v = about(1, 4); due("sites(" + v + ", " + w + ")", town.sites(v, w), model.sites(v, w)); break;
      case 11: { boolean is = oneIn(2); due("test(" + x + ", " + is + ")", town.test(x, is), model.test(x, is)); break; }
      default: v = about(0, 1000); w = about(0, 2); due("line(" + v + ", " + w + ")", town.line(v, w), model.line(v, w));
    }
  }

  private void goOn(int many) {
    for (int i = 0; i < many && !isWrong; i++) {
      int what = below(20);
      if (what < 3) step(oneIn(15) ? about(1, 1440) : from(1, 12));
      else if (what < 8) byHand();
      else if (what < 12) look();
      else if (what < 16) tools();
      else if (what == 16) rider(about(model.now.m, model.now.m + 9), aPost(), aPost(), below(4));
      else if (what == 17) { if (oneIn(4)) { kind(); shop(); } else sayAny(); }
      else if (what == 18 && oneIn(2)) sayRule();
      else if (oneIn(3)) {
        int day = about(0, 2);
        due("endDay(" + day + ")", town.endDay(day), model.endDay(day));
        if (oneIn(3)) { post(from(0, 50), from(0, 50), from(1, 4)); bike(aPost()); }
      }
    }
    digest();
  }

  public static void main(String[] args) {
    int runs = args.length > 0 ? Integer.parseInt(args[0]) : 600, wrong = 0;
    for (int run = 1; run <= runs && wrong < 3; run++) {
      ModelTest test = new ModelTest(run);
      test.begin();
      test.goOn(test.from(50, 250));
      if (test.isWrong) wrong++;
    }
    System.out.println(wrong == 0 ? "all runs are as the model's" : wrong + " runs are not as the model's");
    if (wrong != 0) System.exit(1);
  }
}
