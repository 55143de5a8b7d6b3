import java.util.ArrayList;
import java.util.Arrays;
import java.util.HashMap;
import java.util.List;
import java.util.Map;

/**
 * A second program of the same document, as plain as can be: everything is searched for anew whenever it is asked,
 * all counts come out of the list of what happened, and the best of something is found by trying all.
 * ModelTest lets it and BikeTown answer the same calls.
 */
final class Model {
  static final int NONE = -1, BAD = -2, NO = -3, FULL = -4;

  static final class Post { int x, y, racks; }
  static final class Rider { int minute, from, to, kind; }
  static final class Rule { List<Integer> text; boolean off; }
  static final class Hand { int minute, what, a, b; }

  final List<Post> posts = new ArrayList<>();
  final List<Integer> homes = new ArrayList<>();
  final List<Rider> riders = new ArrayList<>();
  final List<Rule> rules = new ArrayList<>();
  final List<Hand> hands = new ArrayList<>();
  final List<int[]> days = new ArrayList<>();
  final int[] limit = {20, 20, 20, 20}, patience = {5, 5, 5, 5};
  int mend = 60, worn = 500;
  List<Integer> text = new ArrayList<>();
  World now = new World(NONE);
  final int[] wants = new int[12];
  final int[][][] gains = new int[2][5][5];
  final List<int[]> siteList = new ArrayList<>(), wishList = new ArrayList<>(), tests = new ArrayList<>();

  int way(int p, int q) {
    if (!isPost(p) || !isPost(q)) return BAD;
    Post a = posts.get(p), b = posts.get(q);
    return 1 + (Math.abs(a.x - b.x) + Math.abs(a.y - b.y)) / 10;
  }

  boolean isPost(int p) { return p >= 0 && p < posts.size(); }
  boolean isBike(int b) { return b >= 0 && b < homes.size(); }
  static boolean in(int v, int lo, int hi) { return lo <= v && v <= hi; }

  /** A day under way. */
  final class World {
    final int turned;
    int m = 0;
    final int[] price = new int[12];
    final boolean[] open = new boolean[12];
    final int[] place = new int[60], at = new int[60], wear = new int[60], ready = new int[60];
    final boolean[] faulty = new boolean[60];
    final int[][] rides = new int[200][6];
    final int[] end = new int[200];
    final List<int[]> events = new ArrayList<>();
    final List<int[]> empties = new ArrayList<>();
    int vanAt = 0, vanComes = NONE;
    final List<Integer> load = new ArrayList<>();
    final List<int[]> stops = new ArrayList<>();

    World(int turned) {
      this.turned = turned;
      Arrays.fill(price, 10);
      Arrays.fill(open, true);
      for (int b = 0; b < homes.size(); b++) at[b] = homes.get(b);
      for (int[] r : rides) Arrays.fill(r, 1, 5, NONE);
    }

    void event(int what, int post, int rider, int bike) { events.add(new int[] {what, m, post, rider, bike}); }

    List<Integer> standing(int p) {
      List<Integer> list = new ArrayList<>();
      for (int b = 0; b < homes.size(); b++) if (place[b] == 0 && at[b] == p) list.add(b);
      return list;
    }
    List<Integer> sound(int p) {
      List<Integer> list = standing(p);
      list.removeIf(b -> faulty[b]);
      list.sort((b, c) -> wear[b] != wear[c] ? Integer.compare(wear[b], wear[c]) : Integer.compare(b, c));
      return list;
    }
    int free(int p) { return posts.get(p).racks - standing(p).size(); }
    int waiting(int p) {
      int n = 0;
      for (int r = 0; r < riders.size(); r++) if (rides[r][0] == 1 && riders.get(r).from == p) n++;
      return n;
    }
    int happened(int p, int hour, int... whats) {
      int n = 0;
      for (int[] e : events) for (int w : whats) if (e[0] == w && (p < 0 || e[2] == p) && (hour < 0 || e[1] / 60 == hour)) n++;
      return n;
    }
    int emptyMinutes(int p, int hour) {
      int n = 0;
      for (int[] e : empties) if ((p < 0 || e[0] == p) && (hour < 0 || e[1] / 60 == hour)) n++;
      return n;
    }
    int busiest(int p, int hour) {
      int best = 0;
      for (int k = hour * 60; k < hour * 60 + 60; k++) {
        int n = 0;
        for (int[] e : events) if (e[0] == 1 && e[2] == p && e[1] == k) n++;
        best = Math.max(best, n);
      }
      return best;
    }
    int mendNow() { return mend; }
    int paid() {
      int n = 0;
      for (int[] r : rides) n += r[5];
      return n;
    }

    boolean can(Hand h) {
      switch (h.what) {
        case 'o': return open[h.a] != (h.b == 1);
        case 'f': return place[h.a] == 0 && !faulty[h.a];
        case 's': return place[h.a] == 0;
        case 'g': return place[h.a] == 4 && free(h.b) > 0;
        case 'v': return stops.size() < 20;
        default: return true;
      }
    }
    void hand(Hand h) {
      switch (h.what) {
        case 'p': price[h.a] = h.b; break;
        case 'o': open[h.a] = h.b == 1; event(h.b == 1 ? 12 : 11, h.a, NONE, NONE); break;
        case 'f': faulty[h.a] = true; break;
        case 's': place[h.a] = 4; event(9, at[h.a], NONE, h.a); break;
        case 'g': place[h.a] = 0; at[h.a] = h.b; event(10, h.b, NONE, h.a); break;
        default: stops.add(new int[] {h.a, h.b});
      }
    }

    void minute() {
      for (int r = 0; r < riders.size(); r++) if (rides[r][0] == 2 && end[r] == m) arrive(r);
      for (int b = 0; b < homes.size(); b++) {
        if (place[b] == 3 && m >= ready[b] && free(at[b]) > 0) {
          place[b] = 0; wear[b] = 0; faulty[b] = false;
          event(8, at[b], NONE, b);
        }
      }
      for (int p = 0; p < posts.size(); p++) {
        for (int i = 0; i < rules.size(); i++) {
          boolean off = rules.get(i).off;
          if (i == turned) off = !off;
          if (!off) new Reader(rules.get(i).text).run(this, p);
        }
      }
      van();
      for (int r = 0; r < riders.size(); r++) {
        if (rides[r][0] == 1 || rides[r][0] == 0 && riders.get(r).minute == m) look(r);
      }
      for (int p = 0; p < posts.size(); p++) if (sound(p).isEmpty()) empties.add(new int[] {p, m});
      m++;
    }

    void arrive(int r) {
      int b = rides[r][1], p = at[b];
      if (open[p] && free(p) > 0) {
        wear[b] += m - rides[r][2];
        if (wear[b] >= worn) faulty[b] = true;
        place[b] = 0;
        rides[r][0] = 3; rides[r][3] = m; rides[r][4] = p;
        event(2, p, r, b);
        return;
      }
      int best = NONE;
      for (int q = posts.size() - 1; q >= 0; q--) {
        if (q != p && open[q] && free(q) > 0 && (best < 0 || way(p, q) <= way(p, best))) best = q;
      }
      if (best < 0) { end[r] = m + 1; return; }
      at[b] = best;
      end[r] = m + way(p, best);
    }

    void van() {
      if (vanComes == m) { vanAt = stops.get(0)[0]; vanComes = NONE; }
      if (vanComes != NONE) return;
      while (!stops.isEmpty() && stops.get(0)[0] == vanAt) {
        int n = stops.remove(0)[1];
        while (n > 0 && load.size() < 12 && !sound(vanAt).isEmpty()) {
          int b = sound(vanAt).get(0);
          place[b] = 2; at[b] = NONE; load.add(b);
          event(5, vanAt, NONE, b);
          n--;
        }
        while (n < 0 && !load.isEmpty() && free(vanAt) > 0) {
          int b = load.remove(0);
          place[b] = 0; at[b] = vanAt;
          event(6, vanAt, NONE, b);
          n++;
        }
      }
      if (!stops.isEmpty()) vanComes = m + way(vanAt, stops.get(0)[0]);
    }

    void look(int r) {
      Rider t = riders.get(r);
      boolean barred = !open[t.from] || price[t.from] > limit[t.kind];
      if (barred && rides[r][0] == 0) { rides[r][0] = 4; event(3, t.from, r, NONE); return; }
      if (!barred && !sound(t.from).isEmpty()) {
        int b = sound(t.from).get(0);
        rides[r][0] = 2; rides[r][1] = b; rides[r][2] = m; rides[r][5] = price[t.from];
        place[b] = 1; at[b] = t.to;
        end[r] = m + way(t.from, t.to);
        event(1, t.from, r, b);
        return;
      }
      if (m - t.minute >= patience[t.kind]) { rides[r][0] = 5; event(4, t.from, r, NONE); }
      else rides[r][0] = 1;
    }
  }

  /** A text, read by the grammar; a fault comes as an exception. */
  static final class Fault extends RuntimeException {
    final int place;
    Fault(int place) { this.place = place; }
  }

  static final class Reader {
    final List<Integer> s;
    int i = 0, opened = 0;
    World w;
    int p;
    Reader(List<Integer> s) { this.s = s; }

    int fault() {
      try { whole(); } catch (Fault f) { return f.place; }
      return NONE;
    }
    void run(World world, int post) { w = world; p = post; whole(); }

    int peek() { return i < s.size() ? s.get(i) : NONE; }
    int next(int... wanted) {
      for (int x : wanted) if (peek() == x) return s.get(i++);
      throw new Fault(i);
    }
    void whole() {
      boolean holds = test();
      next(20);
      int act = next(23, 28, 29, 30), sum = 0;
      if (act == 23) { next(13); sum = sum(); }
      if (i < s.size()) throw new Fault(i);
      if (w == null || !holds) return;
      if (act == 23) w.price[p] = sum < 0 ? 0 : sum > 99 ? 99 : sum;
      if (act == 28 && w.open[p]) { w.open[p] = false; w.event(11, p, NONE, NONE); }
      if (act == 29 && !w.open[p]) { w.open[p] = true; w.event(12, p, NONE, NONE); }
      if (act == 30) fix();
    }
    void fix() {
      for (int b : w.standing(p)) {
        if (!w.faulty[b]) continue;
        w.place[b] = 3;
        w.ready[b] = w.m + w.mendNow();
        w.event(7, p, NONE, b);
        return;
      }
    }
    boolean test() {
      boolean v = clause();
      while (peek() == 18) { i++; v |= clause(); }
      return v;
    }
    boolean clause() {
      boolean v = term();
      while (peek() == 17) { i++; v &= term(); }
      return v;
    }
    boolean term() {
      if (peek() == 19) { i++; return !term(); }
      if (peek() == 15) {
        if (opened == 8) throw new Fault(i);
        opened++; i++;
        boolean v = test();
        next(16);
        opened--;
        return v;
      }
      int a = sum();
      int how = next(12, 13, 14);
      int b = sum();
      return how == 12 ? a < b : how == 13 ? a == b : a > b;
    }
    int sum() {
      int v = unit();
      while (peek() == 10 || peek() == 11) { int sign = s.get(i++) == 10 ? 1 : -1; v += sign * unit(); }
      return v;
    }
    int unit() {
      if (in(peek(), 21, 27)) {
        int what = s.get(i++);
        if (w == null) return 0;
        switch (what) {
          case 21: return w.sound(p).size();
          case 22: return w.free(p);
          case 23: return w.price[p];
          case 24: return w.m;
          case 25: return w.m / 60;
          case 26: return p;
          default: return w.waiting(p);
        }
      }
      if (!in(peek(), 0, 9)) throw new Fault(i);
      int v = 0, digits = 0;
      while (in(peek(), 0, 9)) {
        if (digits == 3) throw new Fault(i);
        v = 10 * v + s.get(i++);
        digits++;
      }
      return v;
    }
  }

  // ---- the calls

  boolean begun() { return now.m > 0 || !hands.isEmpty(); }

  int post(int x, int y, int racks) {
    if (!in(x, 0, 100) || !in(y, 0, 100) || !in(racks, 1, 20)) return BAD;
    if (begun()) return NO;
    if (posts.size() == 12) return FULL;
    Post p = new Post();
    p.x = x; p.y = y; p.racks = racks;
    posts.add(p);
    return posts.size() - 1;
  }
  int bike(int post) {
    if (!isPost(post)) return BAD;
    if (begun() || now.free(post) < 1) return NO;
    if (homes.size() == 60) return FULL;
    homes.add(post);
    now.at[homes.size() - 1] = post;
    return homes.size() - 1;
  }
  int kind(int k, int l, int p) {
    if (!in(k, 0, 3) || !in(l, 0, 99) || !in(p, 0, 60)) return BAD;
    limit[k] = l; patience[k] = p;
    return 1;
  }
  int rider(int minute, int from, int to, int k) {
    if (!in(minute, 0, 1439) || !isPost(from) || !isPost(to) || from == to || !in(k, 0, 3)) return BAD;
    if (minute < now.m) return NO;
    if (riders.size() == 200) return FULL;
    Rider r = new Rider();
    r.minute = minute; r.from = from; r.to = to; r.kind = k;
    riders.add(r);
    return riders.size() - 1;
  }
  int shop(int m, int w) {
    if (!in(m, 1, 600) || !in(w, 1, 5000)) return BAD;
    mend = m; worn = w;
    return 1;
  }
  int hand(int what, int a, int b) {
    Hand h = new Hand();
    h.minute = now.m; h.what = what; h.a = a; h.b = b;
    if (!now.can(h)) return what == 'v' ? FULL : NO;
    if (hands.size() == 200) return FULL;
    hands.add(h);
    now.hand(h);
    return 1;
  }
  int price(int p, int v) {
    if (!isPost(p) || !in(v, 0, 99)) return BAD;
    int was = now.price[p], done = hand('p', p, v);
    return done < 0 ? done : was;
  }
  int open(int p, boolean is) { return isPost(p) ? hand('o', p, is ? 1 : 0) : BAD; }
  int faulty(int b) { return isBike(b) ? hand('f', b, 0) : BAD; }
  int steal(int b) { return isBike(b) ? hand('s', b, 0) : BAD; }
  int find(int b, int p) { return isBike(b) && isPost(p) ? hand('g', b, p) : BAD; }
  int stop(int p, int n) {
    if (!isPost(p) || !in(n, -12, 12)) return BAD;
    int done = hand('v', p, n);
    return done < 0 ? done : now.stops.size();
  }
  int say(int symbol) {
    if (!in(symbol, 0, 30)) return BAD;
    if (text.size() == 40) return FULL;
    text.add(symbol);
    return text.size();
  }
  int hush() {
    int n = text.size();
    text.clear();
    return n;
  }
  int fault() { return new Reader(text).fault(); }
  int rule() {
    if (fault() != NONE) return NO;
    if (rules.size() == 10) return FULL;
    Rule r = new Rule();
    r.text = new ArrayList<>(text);
    rules.add(r);
    return rules.size() - 1;
  }
  int off(int i, boolean is) {
    if (!in(i, 0, rules.size() - 1)) return BAD;
    if (rules.get(i).off == is) return NO;
    rules.get(i).off = is;
    return 1;
  }
  int step(int n) {
    if (!in(n, 1, 1440)) return BAD;
    if (now.m == 1440) return NO;
    int done = 0;
    while (done < n && now.m < 1440) { now.minute(); done++; }
    return done;
  }
  int endDay(int weekday) {
    if (!in(weekday, 0, 6)) return BAD;
    if (now.m == 0) return NO;
    if (days.size() == 20) return FULL;
    int[] day = new int[1 + 12 * 24];
    day[0] = weekday;
    for (int p = 0; p < posts.size(); p++) for (int h = 0; h < 24; h++) day[1 + 24 * p + h] = now.happened(p, h, 1);
    days.add(day);
    hands.clear();
    now = new World(NONE);
    return days.size();
  }
  int bikeAt(int b, int what) {
    if (!isBike(b) || !in(what, 0, 3)) return BAD;
    return new int[] {now.place[b], now.at[b], now.wear[b], now.faulty[b] ? 1 : 0}[what];
  }
  int postAt(int p, int what) {
    if (!isPost(p)) return BAD;
    switch (what) {
      case 0: return now.standing(p).size();
      case 1: return now.sound(p).size();
      case 2: return now.free(p);
      case 3: return now.price[p];
      case 4: return now.open[p] ? 1 : 0;
      case 5: return now.waiting(p);
      case 6: return now.happened(p, -1, 1);
      case 7: return now.happened(p, -1, 3, 4);
      case 8: return now.emptyMinutes(p, -1);
      default: return BAD;
    }
  }
  int riderAt(int r, int what) {
    return in(r, 0, riders.size() - 1) && in(what, 0, 5) ? now.rides[r][what] : BAD;
  }
  int van(int what) {
    if (!in(what, 0, 3)) return BAD;
    return new int[] {now.vanAt, now.load.size(), now.vanComes, now.stops.size()}[what];
  }
  int lines() { return Math.min(4000, now.events.size()); }
  int log(int i, int what) {
    if (i < 0 || !in(what, 0, 4)) return BAD;
    return i < lines() ? now.events.get(i)[what] : NONE;
  }
  int asOf(int p, int minute) {
    if (!isPost(p) || !in(minute, 0, now.m)) return BAD;
    int n = 0;
    for (int h : homes) if (h == p) n++;
    for (int i = 0; i < lines(); i++) {
      int[] e = now.events.get(i);
      if (e[1] >= minute || e[2] != p) continue;
      n += " -+  -+-+-+  ".charAt(e[0]) == '+' ? 1 : " -+  -+-+-+  ".charAt(e[0]) == '-' ? -1 : 0;
    }
    return n;
  }
  int ends(int p, int hour, int what) {
    if (!isPost(p) || !in(hour, 0, 23) || !in(what, 0, 1)) return BAD;
    int least = now.happened(p, hour, 1, 3, 4);
    if (what == 0) return least;
    int most = now.busiest(p, hour);
    return least + now.emptyMinutes(p, hour) * (most == 0 ? 1 : most);
  }
  int forecast(int weekday, int p, int hour, int what) {
    if (!in(weekday, 0, 6) || !isPost(p) || !in(hour, 0, 23) || !in(what, 0, 1)) return BAD;
    List<int[]> like = new ArrayList<>(days);
    like.removeIf(d -> d[0] != weekday);
    if (like.size() < 2) like = days;
    int sum = 0;
    for (int[] d : like) sum += d[1 + 24 * p + hour];
    return what == 0 ? sum : like.size();
  }
  int whatIf(int rule, int what) {
    if (!in(rule, 0, rules.size() - 1) || !in(what, 0, 3)) return BAD;
    World other = new World(rule);
    while (other.m < now.m) {
      for (Hand h : hands) if (h.minute == other.m && other.can(h)) other.hand(h);
      other.minute();
    }
    switch (what) {
      case 0: return other.happened(-1, -1, 1);
      case 1: return other.happened(-1, -1, 3, 4);
      case 2: return other.paid();
      default: return other.emptyMinutes(-1, -1);
    }
  }
  int want(int p, int v) {
    if (!isPost(p) || !in(v, -12, 12)) return -100;
    int was = wants[p];
    wants[p] = v;
    return was;
  }

  int bestWays;
  List<Integer> bestOrder;
  void orders(List<Integer> left, List<Integer> order, int at, int load, int ways) {
    if (left.isEmpty() && (bestOrder == null || ways < bestWays)) {
      bestWays = ways;
      bestOrder = new ArrayList<>(order);
    }
    for (int i = 0; i < left.size(); i++) {
      int p = left.get(i), then = load + wants[p];
      if (then < 0 || then > 12) continue;
      List<Integer> rest = new ArrayList<>(left);
      rest.remove(i);
      order.add(p);
      orders(rest, order, p, then, ways + (order.size() == 1 && p == at ? 0 : way(at, p)));
      order.remove(order.size() - 1);
    }
  }
  int round() {
    List<Integer> all = new ArrayList<>();
    for (int p = 0; p < 12; p++) if (wants[p] != 0) all.add(p);
    if (all.size() > 8) return NO;
    bestOrder = null;
    orders(all, new ArrayList<>(), now.vanAt, now.load.size(), 0);
    return bestOrder == null ? NONE : bestWays;
  }
  int roundAt(int i) {
    if (i < 0) return BAD;
    if (round() == NO) return NO;
    return bestOrder != null && i < bestOrder.size() ? bestOrder.get(i) : NONE;
  }

  int gain(int who, int a, int b, int v) {
    if (!in(who, 0, 1) || !in(a, 0, 4) || !in(b, 0, 4) || !in(v, -10000, 10000)) return -100000;
    int was = gains[who][a][b];
    gains[who][a][b] = v;
    return was;
  }
  List<Integer> stillPairs() {
    List<Integer> list = new ArrayList<>();
    for (int a = 0; a < 5; a++) {
      for (int b = 0; b < 5; b++) {
        boolean is = true;
        for (int c = 0; c < 5; c++) is &= gains[0][c][b] <= gains[0][a][b] && gains[1][a][c] <= gains[1][a][b];
        if (is) list.add(10 * a + b);
      }
    }
    return list;
  }
  int still() { return stillPairs().size(); }
  int stillAt(int i) { return i < 0 ? BAD : i < still() ? stillPairs().get(i) : NONE; }
  int answers(int a, int b) {
    if (!in(a, 0, 4) || !in(b, 0, 4)) return BAD;
    Map<String, Integer> seen = new HashMap<>();
    int turns = 0;
    while (true) {
      if (stillPairs().contains(10 * a + b)) return turns;
      if (seen.put(a + "," + b + "," + turns % 2, turns) != null) return -10 - turns;
      int most = Integer.MIN_VALUE, best = NONE;
      for (int c = 4; c >= 0; c--) {
        int g = turns % 2 == 0 ? gains[0][c][b] : gains[1][a][c];
        if (g >= most) { most = g; best = c; }
      }
      if (turns % 2 == 0 && gains[0][a][b] != most) a = best;
      if (turns % 2 == 1 && gains[1][a][b] != most) b = best;
      turns++;
    }
  }

  int site(int x, int y) {
    if (!in(x, 0, 100) || !in(y, 0, 100)) return BAD;
    if (siteList.size() == 12) return FULL;
    siteList.add(new int[] {x, y});
    return siteList.size() - 1;
  }
  int wish(int x, int y, int n) {
    if (!in(x, 0, 100) || !in(y, 0, 100) || !in(n, 1, 100)) return BAD;
    if (wishList.size() == 40) return FULL;
    wishList.add(new int[] {x, y, n});
    return wishList.size() - 1;
  }
  int sites(int k, int what) {
    if (!in(k, 1, 4) || k > siteList.size() || !in(what, 0, 1)) return BAD;
    int best = 0, least = Integer.MAX_VALUE;
    for (int set = (1 << siteList.size()) - 1; set > 0; set--) {
      if (Integer.bitCount(set) != k) continue;
      int sum = 0;
      for (int[] w : wishList) {
        int near = 1000;
        for (int p = 0; p < posts.size(); p++) {
          if (now.open[p]) near = Math.min(near, Math.abs(posts.get(p).x - w[0]) + Math.abs(posts.get(p).y - w[1]));
        }
        for (int s = 0; s < siteList.size(); s++) {
          int far = Math.abs(siteList.get(s)[0] - w[0]) + Math.abs(siteList.get(s)[1] - w[1]);
          if ((set & 1 << s) != 0) near = Math.min(near, far);
        }
        sum += near * w[2];
      }
      if (sum <= least) { least = sum; best = set; }
    }
    return what == 0 ? best : least;
  }
  int test(int score, boolean is) {
    if (!in(score, 0, 100)) return BAD;
    if (tests.size() == 60) return FULL;
    tests.add(new int[] {score, is ? 1 : 0});
    return tests.size();
  }
  int line(int share, int what) {
    if (!in(share, 0, 1000) || !in(what, 0, 2)) return BAD;
    for (int c = 0; ; c++) {
      int sound = 0, hit = 0, found = 0;
      for (int[] t : tests) {
        if (t[1] == 0) sound++;
        if (t[1] == 0 && t[0] >= c) hit++;
        if (t[1] == 1 && t[0] >= c) found++;
      }
      if (hit * 1000 <= share * sound) return what == 0 ? c : what == 1 ? found : hit;
    }
  }
  int count(int what) {
    if (!in(what, 0, 9)) return BAD;
    return new int[] {posts.size(), homes.size(), riders.size(), rules.size(), now.m, lines(), days.size(), now.paid(),
        hands.size(), text.size()}[what];
  }
  long digest() {
    long h = 277;
    for (int w = 0; w < 10; w++) h = 31 * h + count(w);
    for (int p = 0; p < posts.size(); p++) for (int w = 0; w < 9; w++) h = 31 * h + postAt(p, w);
    for (int b = 0; b < homes.size(); b++) for (int w = 0; w < 4; w++) h = 31 * h + bikeAt(b, w);
    for (int r = 0; r < riders.size(); r++) for (int w = 0; w < 6; w++) h = 31 * h + riderAt(r, w);
    for (int w = 0; w < 4; w++) h = 31 * h + van(w);
    for (int i = 0; i < lines(); i++) for (int w = 0; w < 5; w++) h = 31 * h + log(i, w);
    return h;
  }
}
