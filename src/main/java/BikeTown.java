import java.util.Arrays;

/**
 * Shared bicycles at posts over a town, gone through minute by minute.
 * What each call promises stands in the document; words in capitals there are names here.
 */
public final class BikeTown {
    public static final int NONE = -1, BAD = -2, NO = -3, FULL = -4;

    private static final int MOST_POSTS = 12, MOST_BIKES = 60, MOST_RIDERS = 200, KINDS = 4;
    private static final int MOST_X = 100, MOST_RACKS = 20, MOST_PRICE = 99;
    private static final int DAY_MINUTES = 1440, HOURS = 24, HOUR_MINUTES = 60;
    private static final int MOST_STOPS = 20, VAN_ROOM = 12;
    private static final int MOST_LINES = 4000, MOST_HANDS = 200, MOST_DAYS = 20;

    // What bikeAt() tells of a bike, and the places of its first answer.
    private static final int PLACE = 0, POST = 1, WEAR = 2, FAULTY = 3, BIKE_ANSWERS = 4;
    private static final int AT_POST = 0, RIDDEN = 1, IN_VAN = 2, IN_SHOP = 3, GONE = 4;

    // What riderAt() tells of a rider, and the states of its first answer.
    private static final int STATE = 0, BIKE = 1, TAKEN = 2, LEFT = 3, LEFT_AT = 4, PAID = 5, RIDER_ANSWERS = 6;
    private static final int TO_COME = 0, WAITS = 1, RIDES = 2, DONE = 3, LOST_DEAR = 4, LOST_EMPTY = 5;

    // What a line of the log tells, and the kinds of its first answer.
    private static final int LINE_WHAT = 0, LINE_MINUTE = 1, LINE_POST = 2, LINE_RIDER = 3, LINE_BIKE = 4;
    private static final int LINE_ANSWERS = 5;
    private static final int LOG_TAKEN = 1, LOG_LEFT = 2, LOG_DEAR = 3, LOG_EMPTY = 4, LOG_VAN_TOOK = 5;
    private static final int LOG_VAN_LEFT = 6, LOG_TO_SHOP = 7, LOG_MENDED = 8, LOG_GONE = 9, LOG_FOUND = 10;
    private static final int LOG_CLOSED = 11, LOG_OPENED = 12;

    // The things that are done by hand.
    private static final int HAND_PRICE = 0, HAND_OPEN = 1, HAND_FAULTY = 2, HAND_STEAL = 3, HAND_FIND = 4;
    private static final int HAND_STOP = 5;

    private final Told told;
    private final Rules rules;
    private final Hands hands;
    private final Day day;
    /** The day that is gone through again; kept, so that no call makes objects. */
    private final Day again;
    private final Days days;
    private final Round tour;
    private final Houses houses;
    private final Sites places;
    private final Trials trials;

    public BikeTown() {
        Told town = new Told();
        Rules texts = new Rules();
        told = town;
        rules = texts;
        hands = new Hands();
        day = new Day(town, texts, MOST_LINES);
        again = new Day(town, texts, 0);
        days = new Days();
        tour = new Round();
        houses = new Houses();
        places = new Sites();
        trials = new Trials();
    }

    // ---- the town

    public int post(int x, int y, int racks) {
        if (!isIn(x, 0, MOST_X) || !isIn(y, 0, MOST_X) || !isIn(racks, 1, MOST_RACKS)) return BAD;
        if (hasBegun()) return NO;
        if (told.posts >= MOST_POSTS) return FULL;
        int post = told.addPost(x, y, racks);
        day.startPost(post);
        return post;
    }

    public int bike(int post) {
        if (!told.isPost(post)) return BAD;
        if (hasBegun() || day.freeRacks(post) <= 0) return NO;
        if (told.bikes >= MOST_BIKES) return FULL;
        int bike = told.addBike(post);
        day.startBike(bike);
        return bike;
    }

    public int kind(int kind, int limit, int patience) {
        if (!isIn(kind, 0, KINDS - 1) || !isIn(limit, 0, MOST_PRICE) || !isIn(patience, 0, 60)) return BAD;
        told.limit[kind] = limit;
        told.patience[kind] = patience;
        return 1;
    }

    public int rider(int minute, int from, int to, int kind) {
        if (!isIn(minute, 0, DAY_MINUTES - 1) || !isIn(kind, 0, KINDS - 1)) return BAD;
        if (!told.isPost(from) || !told.isPost(to) || from == to) return BAD;
        if (minute < day.minute) return NO;
        if (told.riders >= MOST_RIDERS) return FULL;
        int rider = told.addRider(minute, from, to, kind);
        day.startRider(rider);
        return rider;
    }

    public int shop(int mend, int worn) {
        if (!isIn(mend, 1, 600) || !isIn(worn, 1, 5000)) return BAD;
        told.mend = mend;
        told.worn = worn;
        return 1;
    }

    /** Whether the day's beginning can't be changed any more. */
    private boolean hasBegun() {
        return day.minute > 0 || hands.size > 0;
    }

    private static boolean isIn(int v, int least, int most) {
        return v >= least && v <= most;
    }

    private static int bit(boolean is) {
        return is ? 1 : 0;
    }

    // ---- by hand

    public int price(int post, int v) {
        if (!told.isPost(post) || !isIn(v, 0, MOST_PRICE)) return BAD;
        int was = day.price[post];
        int done = byHand(HAND_PRICE, post, v);
        return done == 1 ? was : done;
    }

    public int open(int post, boolean is) {
        return told.isPost(post) ? byHand(HAND_OPEN, post, bit(is)) : BAD;
    }

    public int faulty(int bike) {
        return told.isBike(bike) ? byHand(HAND_FAULTY, bike, 0) : BAD;
    }

    public int steal(int bike) {
        return told.isBike(bike) ? byHand(HAND_STEAL, bike, 0) : BAD;
    }

    public int find(int bike, int post) {
        return told.isBike(bike) && told.isPost(post) ? byHand(HAND_FIND, bike, post) : BAD;
    }

    public int stop(int post, int n) {
        if (!told.isPost(post) || !isIn(n, -VAN_ROOM, VAN_ROOM)) return BAD;
        if (day.van.stops >= MOST_STOPS) return FULL;
        int done = byHand(HAND_STOP, post, n);
        return done == 1 ? day.van.stops : done;
    }

    private int byHand(int what, int a, int b) {
        if (!day.canBeDone(what, a, b)) return NO;
        if (hands.size >= MOST_HANDS) return FULL;
        hands.add(day.minute, what, a, b);
        day.doByHand(what, a, b);
        return 1;
    }

    // ---- rules

    public int say(int symbol) {
        if (!isIn(symbol, 0, Rules.LAST_SYMBOL)) return BAD;
        if (rules.length >= Rules.MOST_SYMBOLS) return FULL;
        rules.text[rules.length] = symbol;
        rules.length++;
        return rules.length;
    }

    public int hush() {
        int had = rules.length;
        rules.length = 0;
        return had;
    }

    public int fault() {
        return rules.faultPlace();
    }

    public int rule() {
        if (rules.faultPlace() != NONE) return NO;
        if (rules.size >= Rules.MOST_RULES) return FULL;
        return rules.addText();
    }

    public int off(int rule, boolean is) {
        if (!isIn(rule, 0, rules.size - 1)) return BAD;
        if (rules.isOff[rule] == is) return NO;
        rules.isOff[rule] = is;
        return 1;
    }

    // ---- minutes

    public int step(int n) {
        if (!isIn(n, 1, DAY_MINUTES)) return BAD;
        if (day.minute >= DAY_MINUTES) return NO;
        int steps = Math.min(n, DAY_MINUTES - day.minute);
        for (int i = 0; i < steps; i++) day.passMinute();
        return steps;
    }

    public int endDay(int weekday) {
        if (!isIn(weekday, 0, 6)) return BAD;
        if (day.minute == 0) return NO;
        if (days.size >= MOST_DAYS) return FULL;
        days.keep(weekday, day.diary);
        hands.size = 0;
        day.begin(NONE);
        return days.size;
    }

    public int bikeAt(int bike, int what) {
        if (!told.isBike(bike) || !isIn(what, 0, BIKE_ANSWERS - 1)) return BAD;
        return day.bike[what][bike];
    }

    public int postAt(int post, int what) {
        return told.isPost(post) && isIn(what, 0, 8) ? day.tellPost(post, what) : BAD;
    }

    public int riderAt(int rider, int what) {
        if (!isIn(rider, 0, told.riders - 1) || !isIn(what, 0, RIDER_ANSWERS - 1)) return BAD;
        return day.rider[what][rider];
    }

    public int van(int what) {
        switch (what) {
            case 0: return day.van.at;
            case 1: return day.van.load;
            case 2: return day.van.comesAt;
            case 3: return day.van.stops;
            default: return BAD;
        }
    }

    public int way(int post, int other) {
        return told.isPost(post) && told.isPost(other) ? told.minutesBetween(post, other) : BAD;
    }

    // ---- log, wishes, days

    public int log(int i, int what) {
        if (i < 0 || !isIn(what, 0, LINE_ANSWERS - 1)) return BAD;
        return i < day.diary.lines ? day.diary.line[what][i] : NONE;
    }

    public int asOf(int post, int minute) {
        if (!told.isPost(post) || !isIn(minute, 0, day.minute)) return BAD;
        return told.bikesAhead(post) + day.diary.changeTill(post, minute);
    }

    public int ends(int post, int hour, int what) {
        if (!told.isPost(post) || !isIn(hour, 0, HOURS - 1) || !isIn(what, 0, 1)) return BAD;
        int least = day.diary.taken[post][hour] + day.diary.lost[post][hour];
        int most = least + day.diary.empty[post][hour] * Math.max(1, day.diary.busiest[post][hour]);
        return what == 0 ? least : most;
    }

    public int forecast(int weekday, int post, int hour, int what) {
        if (!isIn(weekday, 0, 6) || !told.isPost(post)) return BAD;
        if (!isIn(hour, 0, HOURS - 1) || !isIn(what, 0, 1)) return BAD;
        return what == 0 ? days.sumOfLike(weekday, post, hour) : days.countLike(weekday);
    }

    public int whatIf(int rule, int what) {
        if (!isIn(rule, 0, rules.size - 1) || !isIn(what, 0, 3)) return BAD;
        int next = 0;
        again.begin(rule);
        for (int m = 0; m < day.minute; m++) {
            next = again.redo(hands, next);
            again.passMinute();
        }
        switch (what) {
            case 0: return sumOver(again.diary.taken);
            case 1: return sumOver(again.diary.lost);
            case 2: return again.diary.paid;
            default: return sumOver(again.diary.empty);
        }
    }

    private int sumOver(int[][] hourCounts) {
        int sum = 0;
        for (int p = 0; p < told.posts; p++) sum += Diary.sumOf(hourCounts[p]);
        return sum;
    }

    // ---- rounds, prices, posts, tests

    public int want(int post, int v) {
        if (!told.isPost(post) || !isIn(v, -VAN_ROOM, VAN_ROOM)) return -100;
        int was = tour.want[post];
        tour.want[post] = v;
        return was;
    }

    public int round() {
        if (tour.countWanting() > Round.MOST_WANTING) return NO;
        return tour.leastWays(told, day.van);
    }

    public int roundAt(int i) {
        if (i < 0) return BAD;
        if (tour.countWanting() > Round.MOST_WANTING) return NO;
        return tour.leastWays(told, day.van) == NONE ? NONE : tour.postOfOrder(told, day.van, i);
    }

    public int gain(int who, int a, int b, int v) {
        if (!isIn(who, 0, 1) || !Houses.isLevel(a) || !Houses.isLevel(b) || !isIn(v, -10000, 10000)) return -100000;
        int was = houses.gain[who][Houses.pairOf(a, b)];
        houses.gain[who][Houses.pairOf(a, b)] = v;
        return was;
    }

    public int still() {
        return houses.countStill();
    }

    public int stillAt(int i) {
        return i < 0 ? BAD : houses.stillPair(i);
    }

    public int answers(int a, int b) {
        return Houses.isLevel(a) && Houses.isLevel(b) ? houses.turnsFrom(a, b) : BAD;
    }

    public int site(int x, int y) {
        if (!isIn(x, 0, MOST_X) || !isIn(y, 0, MOST_X)) return BAD;
        return places.size >= Sites.MOST_SITES ? FULL : places.addSite(x, y);
    }

    public int wish(int x, int y, int n) {
        if (!isIn(x, 0, MOST_X) || !isIn(y, 0, MOST_X) || !isIn(n, 1, 100)) return BAD;
        return places.wishes >= Sites.MOST_WISHES ? FULL : places.addWish(x, y, n);
    }

    public int sites(int k, int what) {
        if (!isIn(k, 1, Math.min(4, places.size)) || !isIn(what, 0, 1)) return BAD;
        places.measureOpenPosts(told, day.isOpen);
        int set = places.bestSet(k);
        return what == 0 ? set : places.sumFor(set);
    }

    public int test(int score, boolean isFaulty) {
        if (!isIn(score, 0, 100)) return BAD;
        return trials.size >= Trials.MOST_ROWS ? FULL : trials.add(score, isFaulty);
    }

    public int line(int share, int what) {
        if (!isIn(share, 0, 1000) || !isIn(what, 0, 2)) return BAD;
        int score = trials.leastScore(share);
        return what == 0 ? score : trials.countFrom(score, what == 1);
    }

    public int count(int what) {
        switch (what) {
            case 0: return told.posts;
            case 1: return told.bikes;
            case 2: return told.riders;
            case 3: return rules.size;
            case 4: return day.minute;
            case 5: return day.diary.lines;
            case 6: return days.size;
            case 7: return day.diary.paid;
            case 8: return hands.size;
            case 9: return rules.length;
            default: return BAD;
        }
    }

    public long digest() {
        long h = 277;
        for (int w = 0; w <= 9; w++) h = 31 * h + count(w);
        for (int p = 0; p < told.posts; p++) {
            for (int w = 0; w <= 8; w++) h = 31 * h + day.tellPost(p, w);
        }
        for (int b = 0; b < told.bikes; b++) h = digestAt(h, day.bike, b);
        for (int r = 0; r < told.riders; r++) h = digestAt(h, day.rider, r);
        for (int w = 0; w <= 3; w++) h = 31 * h + van(w);
        for (int i = 0; i < day.diary.lines; i++) h = digestAt(h, day.diary.line, i);
        return h;
    }

    /** The digest goes on by the i-th of each column. */
    private static long digestAt(long h, int[][] columns, int i) {
        long next = h;
        for (int c = 0; c < columns.length; c++) next = 31 * next + columns[c][i];
        return next;
    }

    /** What was told ahead: posts, bikes, riders, kinds, the shop. */
    private static final class Told {
        int posts, bikes, riders;
        int mend = 60, worn = 500;
        final int[] x = new int[MOST_POSTS], y = new int[MOST_POSTS], racks = new int[MOST_POSTS];
        final int[] home = new int[MOST_BIKES];
        final int[] minute = new int[MOST_RIDERS], from = new int[MOST_RIDERS];
        final int[] to = new int[MOST_RIDERS], kind = new int[MOST_RIDERS];
        final int[] limit = new int[KINDS], patience = new int[KINDS];

        Told() {
            Arrays.fill(limit, 20);
            Arrays.fill(patience, 5);
        }

        boolean isPost(int p) {
            return p >= 0 && p < posts;
        }

        boolean isBike(int b) {
            return b >= 0 && b < bikes;
        }

        int addPost(int atX, int atY, int n) {
            x[posts] = atX;
            y[posts] = atY;
            racks[posts] = n;
            posts++;
            return posts - 1;
        }

        int addBike(int p) {
            home[bikes] = p;
            bikes++;
            return bikes - 1;
        }

        int addRider(int m, int p, int other, int k) {
            minute[riders] = m;
            from[riders] = p;
            to[riders] = other;
            kind[riders] = k;
            riders++;
            return riders - 1;
        }

        int minutesBetween(int p, int other) {
            return 1 + (Math.abs(x[p] - x[other]) + Math.abs(y[p] - y[other])) / 10;
        }

        /** How many bikes a post has as a day begins. */
        int bikesAhead(int p) {
            int n = 0;
            for (int b = 0; b < bikes; b++) {
                if (home[b] == p) n++;
            }
            return n;
        }
    }

    /** The text that is said, and the rules that came of texts. */
    private static final class Rules {
        static final int MOST_SYMBOLS = 40, MOST_RULES = 10, MOST_OPENED = 8, LAST_SYMBOL = 30;
        static final int LAST_DIGIT = 9, PLUS = 10, MINUS = 11, LESS = 12, EQUAL = 13, GREATER = 14;
        static final int OPENING = 15, CLOSING = 16, AND = 17, OR = 18, NOT = 19, THEN = 20;
        static final int FIRST_NAME = 21, PRICE_NAME = 23, LAST_NAME = 27, CLOSE = 28, OPEN = 29, FIX = 30;
        static final int NAMES = LAST_NAME - FIRST_NAME + 1;

        // What is due next as a text is looked through: ..STANDS is behind a whole unit or term.
        static final int TERM_DUE = 0, LEFT_DUE = 1, LEFT_STANDS = 2, RIGHT_DUE = 3, RIGHT_STANDS = 4;
        static final int TERM_STANDS = 5, ACT_DUE = 6, EQUAL_DUE = 7, PRICE_DUE = 8, PRICE_STANDS = 9, ENDED = 10;

        final int[] text = new int[MOST_SYMBOLS];
        int length;
        int size;
        final int[][] rows = new int[MOST_RULES][MOST_SYMBOLS];
        final int[] lengths = new int[MOST_RULES], thenAt = new int[MOST_RULES];
        final boolean[] isOff = new boolean[MOST_RULES];
        /** Where a rule is being read. */
        private int at;
        // By how many ( are open: whether a clause held, whether all terms of this clause did, whether NOT is ahead.
        private final boolean[] any = new boolean[MOST_OPENED + 1], all = new boolean[MOST_OPENED + 1];
        private final boolean[] turned = new boolean[MOST_OPENED + 1];

        int faultPlace() {
            int state = TERM_DUE, opened = 0, digits = 0;
            for (int i = 0; i < length; i++) {
                int s = text[i];
                digits = s <= LAST_DIGIT ? digits + 1 : 0;
                if (digits > 3) return i;
                if (digits > 1) continue;
                if (s == OPENING && opened == MOST_OPENED) return i;
                if (s == CLOSING && opened == 0 || s == THEN && opened > 0) return i;
                state = stateBehind(state, s);
                if (state == NONE) return i;
                if (s == OPENING) opened++;
                if (s == CLOSING) opened--;
            }
            return state == PRICE_STANDS || state == ENDED ? NONE : length;
        }

        /** NONE, if the symbol can't stand there. */
        private static int stateBehind(int state, int s) {
            boolean isUnit = s <= LAST_DIGIT || s >= FIRST_NAME && s <= LAST_NAME;
            boolean isSign = s == PLUS || s == MINUS;
            switch (state) {
                case TERM_DUE:
                    if (s == NOT || s == OPENING) return TERM_DUE;
                    return isUnit ? LEFT_STANDS : NONE;
                case LEFT_DUE: return isUnit ? LEFT_STANDS : NONE;
                case LEFT_STANDS:
                    if (isSign) return LEFT_DUE;
                    return s >= LESS && s <= GREATER ? RIGHT_DUE : NONE;
                case RIGHT_DUE: return isUnit ? RIGHT_STANDS : NONE;
                case RIGHT_STANDS: return isSign ? RIGHT_DUE : stateBehindTerm(s);
                case TERM_STANDS: return stateBehindTerm(s);
                case ACT_DUE:
                    if (s == PRICE_NAME) return EQUAL_DUE;
                    return s >= CLOSE ? ENDED : NONE;
                case EQUAL_DUE: return s == EQUAL ? PRICE_DUE : NONE;
                case PRICE_DUE: return isUnit ? PRICE_STANDS : NONE;
                case PRICE_STANDS: return isSign ? PRICE_DUE : NONE;
                default: return NONE;
            }
        }

        private static int stateBehindTerm(int s) {
            if (s == AND || s == OR) return TERM_DUE;
            if (s == CLOSING) return TERM_STANDS;
            return s == THEN ? ACT_DUE : NONE;
        }

        /** Only for a text without a fault. */
        int addText() {
            for (int i = 0; i < length; i++) {
                rows[size][i] = text[i];
                if (text[i] == THEN) thenAt[size] = i;
            }
            lengths[size] = length;
            isOff[size] = false;
            size++;
            return size - 1;
        }

        /** Whether the rule's test holds; names: what BIKES, FREE .. WAITING are. */
        boolean holds(int rule, int[] names) {
            int[] row = rows[rule];
            int end = thenAt[rule], opened = 0;
            boolean not = false;
            at = 0;
            begin(0, false);
            for (int i = 0; i < MOST_SYMBOLS && at < end; i++) {
                int s = row[at];
                if (s == NOT) {
                    not = !not;
                } else if (s == OPENING && opened < MOST_OPENED) {
                    opened++;
                    begin(opened, not);
                    not = false;
                } else if (s == CLOSING && opened > 0) {
                    boolean value = (any[opened] || all[opened]) != turned[opened];
                    opened--;
                    all[opened] = all[opened] && value;
                } else if (s == OR) {
                    any[opened] = any[opened] || all[opened];
                    all[opened] = true;
                } else if (s != AND) {
                    boolean value = compare(row, end, names) != not;
                    all[opened] = all[opened] && value;
                    not = false;
                    continue;
                }
                at++;
            }
            return any[0] || all[0];
        }

        private void begin(int opened, boolean not) {
            any[opened] = false;
            all[opened] = true;
            turned[opened] = not;
        }

        private boolean compare(int[] row, int end, int[] names) {
            int left = readSum(row, end, names);
            int sign = at < end ? row[at] : EQUAL;
            at++;
            int right = readSum(row, end, names);
            if (sign == LESS) return left < right;
            return sign == EQUAL ? left == right : left > right;
        }

        private int readSum(int[] row, int end, int[] names) {
            int sum = 0, unit = 0, sign = 1;
            for (; at < end; at++) {
                int s = row[at];
                if (s <= LAST_DIGIT) {
                    unit = unit * 10 + s;
                } else if (s >= FIRST_NAME && s <= LAST_NAME) {
                    unit = names[s - FIRST_NAME];
                } else if (s == PLUS || s == MINUS) {
                    sum += sign * unit;
                    unit = 0;
                    sign = s == PLUS ? 1 : -1;
                } else {
                    break;
                }
            }
            return sum + sign * unit;
        }

        /** The symbol that begins the rule's act. */
        int act(int rule) {
            int place = thenAt[rule] + 1;
            return place < MOST_SYMBOLS ? rows[rule][place] : NONE;
        }

        int newPrice(int rule, int[] names) {
            at = thenAt[rule] + 3;
            int sum = readSum(rows[rule], lengths[rule], names);
            return Math.max(0, Math.min(MOST_PRICE, sum));
        }
    }

    /** What was done by hand this day, with its minutes. */
    private static final class Hands {
        int size;
        final int[] minute = new int[MOST_HANDS], what = new int[MOST_HANDS];
        final int[] a = new int[MOST_HANDS], b = new int[MOST_HANDS];

        void add(int atMinute, int thing, int first, int second) {
            minute[size] = atMinute;
            what[size] = thing;
            a[size] = first;
            b[size] = second;
            size++;
        }
    }

    /** The log and the counts of a day. */
    private static final class Diary {
        final int mostLines;
        int lines;
        int paid;
        final int[][] line;
        // By posts and hours.
        final int[][] taken = new int[MOST_POSTS][HOURS], lost = new int[MOST_POSTS][HOURS];
        final int[][] empty = new int[MOST_POSTS][HOURS];
        /** The most rides that were taken in any one minute. */
        final int[][] busiest = new int[MOST_POSTS][HOURS];
        private final int[] takenNow = new int[MOST_POSTS];

        Diary(int most) {
            int room = Math.max(0, most);
            mostLines = room;
            line = new int[LINE_ANSWERS][room];
        }

        void clear() {
            lines = 0;
            paid = 0;
            for (int p = 0; p < MOST_POSTS; p++) {
                Arrays.fill(taken[p], 0);
                Arrays.fill(lost[p], 0);
                Arrays.fill(empty[p], 0);
                Arrays.fill(busiest[p], 0);
            }
            beginMinute();
        }

        void beginMinute() {
            Arrays.fill(takenNow, 0);
        }

        void add(int what, int minute, int post, int rider, int bike) {
            if (lines >= mostLines) return;
            line[LINE_WHAT][lines] = what;
            line[LINE_MINUTE][lines] = minute;
            line[LINE_POST][lines] = post;
            line[LINE_RIDER][lines] = rider;
            line[LINE_BIKE][lines] = bike;
            lines++;
        }

        void countTaken(int post, int hour, int price) {
            taken[post][hour]++;
            takenNow[post]++;
            busiest[post][hour] = Math.max(busiest[post][hour], takenNow[post]);
            paid += price;
        }

        /** By how many the lines of minutes below this one change the bikes of a post. */
        int changeTill(int post, int minute) {
            int change = 0;
            for (int i = 0; i < lines; i++) {
                if (line[LINE_MINUTE][i] < minute && line[LINE_POST][i] == post) change += changeBy(line[LINE_WHAT][i]);
            }
            return change;
        }

        private static int changeBy(int what) {
            switch (what) {
                case LOG_LEFT: case LOG_VAN_LEFT: case LOG_MENDED: case LOG_FOUND: return 1;
                case LOG_TAKEN: case LOG_VAN_TOOK: case LOG_TO_SHOP: case LOG_GONE: return -1;
                default: return 0;
            }
        }

        static int sumOf(int[] row) {
            int sum = 0;
            for (int v : row) sum += v;
            return sum;
        }
    }

    /** The van: where it is, what it has, and its list of stops. */
    private static final class Van {
        int at, load, stops;
        int comesAt = NONE;
        final int[] loaded = new int[VAN_ROOM];
        final int[] stopPost = new int[MOST_STOPS], stopNumber = new int[MOST_STOPS];

        void begin() {
            at = 0;
            load = 0;
            stops = 0;
            comesAt = NONE;
        }

        void addStop(int post, int n) {
            if (stops >= MOST_STOPS) return;
            stopPost[stops] = post;
            stopNumber[stops] = n;
            stops++;
        }

        void dropFirstStop() {
            for (int i = 1; i < stops; i++) {
                stopPost[i - 1] = stopPost[i];
                stopNumber[i - 1] = stopNumber[i];
            }
            if (stops > 0) stops--;
        }

        void put(int bike) {
            if (load >= VAN_ROOM) return;
            loaded[load] = bike;
            load++;
        }

        /** The bike that it took first of those in it. */
        int takeFirst() {
            if (load <= 0) return NONE;
            int first = loaded[0];
            for (int i = 1; i < load; i++) loaded[i - 1] = loaded[i];
            load--;
            return first;
        }
    }

    /** A day that is gone through: where all are, minute by minute. */
    private static final class Day {
        final Told told;
        final Rules rules;
        final Diary diary;
        final Van van = new Van();
        /** The next minute to be gone through. */
        int minute;
        /** The rule that is the other way than it is told: off if it is not, not if it is. */
        private int turnedRule = NONE;
        final int[] price = new int[MOST_POSTS];
        final boolean[] isOpen = new boolean[MOST_POSTS];
        private final int[] bikesAt = new int[MOST_POSTS], soundAt = new int[MOST_POSTS];
        private final int[] waiting = new int[MOST_POSTS];
        final int[][] bike = new int[BIKE_ANSWERS][MOST_BIKES];
        private final int[] mendedAt = new int[MOST_BIKES];
        final int[][] rider = new int[RIDER_ANSWERS][MOST_RIDERS];
        private final int[] rideEnds = new int[MOST_RIDERS];
        /** What the names in rules are, at the post that is looked at. */
        private final int[] names = new int[Rules.NAMES];

        Day(Told town, Rules texts, int mostLines) {
            told = town;
            rules = texts;
            diary = new Diary(mostLines);
        }

        // -- the day's beginning

        void begin(int ruleToTurn) {
            minute = 0;
            turnedRule = ruleToTurn;
            for (int p = 0; p < told.posts; p++) startPost(p);
            for (int b = 0; b < told.bikes; b++) startBike(b);
            for (int r = 0; r < told.riders; r++) startRider(r);
            van.begin();
            diary.clear();
        }

        void startPost(int p) {
            price[p] = 10;
            isOpen[p] = true;
            bikesAt[p] = 0;
            soundAt[p] = 0;
            waiting[p] = 0;
        }

        void startBike(int b) {
            bike[WEAR][b] = 0;
            bike[FAULTY][b] = 0;
            settle(b, told.home[b]);
        }

        void startRider(int r) {
            rider[STATE][r] = TO_COME;
            rider[BIKE][r] = NONE;
            rider[TAKEN][r] = NONE;
            rider[LEFT][r] = NONE;
            rider[LEFT_AT][r] = NONE;
            rider[PAID][r] = 0;
        }

        /** Does the things of this minute from the i-th on that can be done: the first thing of later minutes. */
        int redo(Hands hands, int i) {
            int next = i;
            for (; next < hands.size && hands.minute[next] <= minute; next++) {
                int what = hands.what[next], a = hands.a[next], b = hands.b[next];
                if (canBeDone(what, a, b)) doByHand(what, a, b);
            }
            return next;
        }

        // -- bikes and posts

        int freeRacks(int p) {
            return told.racks[p] - bikesAt[p];
        }

        private boolean takesBikes(int p) {
            return isOpen[p] && freeRacks(p) > 0;
        }

        private void settle(int b, int p) {
            bike[PLACE][b] = AT_POST;
            bike[POST][b] = p;
            bikesAt[p]++;
            if (bike[FAULTY][b] == 0) soundAt[p]++;
        }

        /** Takes a bike from the post where it stands; its POST stays told. */
        private void lift(int b, int place) {
            int p = bike[POST][b];
            if (bike[PLACE][b] != AT_POST || !told.isPost(p)) return;
            bike[PLACE][b] = place;
            bikesAt[p]--;
            if (bike[FAULTY][b] == 0) soundAt[p]--;
        }

        private boolean isAt(int b, int p) {
            return bike[PLACE][b] == AT_POST && bike[POST][b] == p;
        }

        /** The least worn bike that is not faulty, of like ones the least number. */
        private int bestBike(int p) {
            int best = NONE;
            if (soundAt[p] <= 0) return NONE;
            for (int b = 0; b < told.bikes; b++) {
                if (!isAt(b, p) || bike[FAULTY][b] != 0) continue;
                if (best == NONE || bike[WEAR][b] < bike[WEAR][best]) best = b;
            }
            return best;
        }

        private void tellFaulty(int b) {
            int p = bike[POST][b];
            if (!told.isPost(p) || !isAt(b, p) || bike[FAULTY][b] != 0) return;
            bike[FAULTY][b] = 1;
            soundAt[p]--;
        }

        private int firstFaulty(int p) {
            for (int b = 0; b < told.bikes; b++) {
                if (isAt(b, p) && bike[FAULTY][b] != 0) return b;
            }
            return NONE;
        }

        private void setOpen(int p, boolean is) {
            if (isOpen[p] == is) return;
            isOpen[p] = is;
            diary.add(is ? LOG_OPENED : LOG_CLOSED, minute, p, NONE, NONE);
        }

        int tellPost(int p, int what) {
            switch (what) {
                case 0: return bikesAt[p];
                case 1: return soundAt[p];
                case 2: return freeRacks(p);
                case 3: return price[p];
                case 4: return isOpen[p] ? 1 : 0;
                case 5: return waiting[p];
                case 6: return Diary.sumOf(diary.taken[p]);
                case 7: return Diary.sumOf(diary.lost[p]);
                default: return Diary.sumOf(diary.empty[p]);
            }
        }

        // -- by hand

        /** Whether a thing that is told well can be done as all stands. */
        boolean canBeDone(int what, int a, int b) {
            switch (what) {
                case HAND_OPEN: return isOpen[a] != (b != 0);
                case HAND_FAULTY: return bike[PLACE][a] == AT_POST && bike[FAULTY][a] == 0;
                case HAND_STEAL: return bike[PLACE][a] == AT_POST;
                case HAND_FIND: return bike[PLACE][a] == GONE && freeRacks(b) > 0;
                case HAND_STOP: return van.stops < MOST_STOPS;
                default: return true;
            }
        }

        void doByHand(int what, int a, int b) {
            switch (what) {
                case HAND_PRICE:
                    price[a] = b;
                    break;
                case HAND_OPEN:
                    setOpen(a, b != 0);
                    break;
                case HAND_FAULTY:
                    tellFaulty(a);
                    break;
                case HAND_STEAL:
                    lift(a, GONE);
                    diary.add(LOG_GONE, minute, bike[POST][a], NONE, a);
                    break;
                case HAND_FIND:
                    settle(a, b);
                    diary.add(LOG_FOUND, minute, b, NONE, a);
                    break;
                default:
                    van.addStop(a, b);
            }
        }

        // -- a minute

        void passMinute() {
            if (minute >= DAY_MINUTES) return;
            diary.beginMinute();
            endRides();
            mendBikes();
            followRules();
            driveVan();
            lookAtRiders();
            countEmpty();
            minute++;
        }

        private int hour() {
            return minute / HOUR_MINUTES;
        }

        private void endRides() {
            for (int r = 0; r < told.riders; r++) {
                if (rider[STATE][r] == RIDES && rideEnds[r] == minute) endRide(r);
            }
        }

        private void endRide(int r) {
            int b = rider[BIKE][r];
            int p = told.isBike(b) ? bike[POST][b] : NONE;
            if (!told.isPost(p)) return;
            if (takesBikes(p)) {
                leaveBike(r, b, p);
                return;
            }
            int next = nearestThatTakes(p);
            rideEnds[r] = minute + (next == NONE ? 1 : told.minutesBetween(p, next));
            if (next != NONE) bike[POST][b] = next;
        }

        private void leaveBike(int r, int b, int p) {
            bike[WEAR][b] += minute - rider[TAKEN][r];
            if (bike[WEAR][b] >= told.worn) bike[FAULTY][b] = 1;
            settle(b, p);
            rider[STATE][r] = DONE;
            rider[LEFT][r] = minute;
            rider[LEFT_AT][r] = p;
            diary.add(LOG_LEFT, minute, p, r, b);
        }

        private int nearestThatTakes(int p) {
            int nearest = NONE, least = 0;
            for (int other = 0; other < told.posts; other++) {
                if (other == p || !takesBikes(other)) continue;
                int minutes = told.minutesBetween(p, other);
                if (nearest == NONE || minutes < least) {
                    nearest = other;
                    least = minutes;
                }
            }
            return nearest;
        }

        private void mendBikes() {
            for (int b = 0; b < told.bikes; b++) {
                if (bike[PLACE][b] != IN_SHOP || mendedAt[b] > minute) continue;
                int p = bike[POST][b];
                if (!told.isPost(p) || freeRacks(p) <= 0) continue;
                bike[WEAR][b] = 0;
                bike[FAULTY][b] = 0;
                settle(b, p);
                diary.add(LOG_MENDED, minute, p, NONE, b);
            }
        }

        private void followRules() {
            for (int p = 0; p < told.posts; p++) {
                for (int i = 0; i < rules.size; i++) {
                    boolean isOff = rules.isOff[i] != (i == turnedRule);
                    if (!isOff) followRule(i, p);
                }
            }
        }

        private void followRule(int i, int p) {
            nameAll(p);
            if (!rules.holds(i, names)) return;
            switch (rules.act(i)) {
                case Rules.PRICE_NAME:
                    price[p] = rules.newPrice(i, names);
                    break;
                case Rules.CLOSE:
                    setOpen(p, false);
                    break;
                case Rules.OPEN:
                    setOpen(p, true);
                    break;
                default:
                    sendToShop(firstFaulty(p));
            }
        }

        private void nameAll(int p) {
            names[0] = soundAt[p];
            names[1] = freeRacks(p);
            names[2] = price[p];
            names[3] = minute;
            names[4] = hour();
            names[5] = p;
            names[6] = waiting[p];
        }

        private void sendToShop(int b) {
            if (!told.isBike(b)) return;
            lift(b, IN_SHOP);
            mendedAt[b] = minute + told.mend;
            diary.add(LOG_TO_SHOP, minute, bike[POST][b], NONE, b);
        }

        private void driveVan() {
            if (van.comesAt > minute) return;
            if (van.comesAt != NONE && van.stops > 0) van.at = van.stopPost[0];
            van.comesAt = NONE;
            for (int i = 0; i < MOST_STOPS && van.stops > 0 && van.stopPost[0] == van.at; i++) {
                doStop(van.at, van.stopNumber[0]);
                van.dropFirstStop();
            }
            if (van.stops > 0) van.comesAt = minute + told.minutesBetween(van.at, van.stopPost[0]);
        }

        private void doStop(int p, int n) {
            for (int i = 0; i < n; i++) vanTakes(p);
            for (int i = 0; i < -n; i++) vanLeaves(p);
        }

        private void vanTakes(int p) {
            int b = van.load < VAN_ROOM ? bestBike(p) : NONE;
            if (b == NONE) return;
            lift(b, IN_VAN);
            bike[POST][b] = NONE;
            van.put(b);
            diary.add(LOG_VAN_TOOK, minute, p, NONE, b);
        }

        private void vanLeaves(int p) {
            int b = freeRacks(p) > 0 ? van.takeFirst() : NONE;
            if (b == NONE) return;
            settle(b, p);
            diary.add(LOG_VAN_LEFT, minute, p, NONE, b);
        }

        private void lookAtRiders() {
            for (int r = 0; r < told.riders; r++) {
                int state = rider[STATE][r];
                if (state == WAITS || state == TO_COME && told.minute[r] == minute) lookAtRider(r);
            }
        }

        private void lookAtRider(int r) {
            int p = told.from[r], k = told.kind[r];
            boolean isShut = !isOpen[p] || price[p] > told.limit[k];
            int b = isShut ? NONE : bestBike(p);
            boolean waits = rider[STATE][r] == WAITS;
            if (waits) waiting[p]--;
            if (isShut && !waits) {
                lose(r, p, LOST_DEAR);
            } else if (b != NONE) {
                takeBike(r, b, p);
            } else if (minute - told.minute[r] >= told.patience[k]) {
                lose(r, p, LOST_EMPTY);
            } else {
                rider[STATE][r] = WAITS;
                waiting[p]++;
            }
        }

        private void lose(int r, int p, int state) {
            rider[STATE][r] = state;
            diary.lost[p][hour()]++;
            diary.add(state == LOST_DEAR ? LOG_DEAR : LOG_EMPTY, minute, p, r, NONE);
        }

        private void takeBike(int r, int b, int p) {
            int to = told.to[r];
            lift(b, RIDDEN);
            bike[POST][b] = to;
            rider[STATE][r] = RIDES;
            rider[BIKE][r] = b;
            rider[TAKEN][r] = minute;
            rider[PAID][r] = price[p];
            rideEnds[r] = minute + told.minutesBetween(p, to);
            diary.countTaken(p, hour(), price[p]);
            diary.add(LOG_TAKEN, minute, p, r, b);
        }

        private void countEmpty() {
            for (int p = 0; p < told.posts; p++) {
                if (soundAt[p] == 0) diary.empty[p][hour()]++;
            }
        }
    }

    /** The days that are kept: rides taken by posts and hours. */
    private static final class Days {
        int size;
        private final int[] weekdays = new int[MOST_DAYS];
        private final int[][] taken = new int[MOST_DAYS][MOST_POSTS * HOURS];

        void keep(int weekday, Diary diary) {
            weekdays[size] = weekday;
            for (int p = 0; p < MOST_POSTS; p++) {
                for (int h = 0; h < HOURS; h++) taken[size][p * HOURS + h] = diary.taken[p][h];
            }
            size++;
        }

        private int countWith(int weekday) {
            int n = 0;
            for (int d = 0; d < size; d++) {
                if (weekdays[d] == weekday) n++;
            }
            return n;
        }

        int countLike(int weekday) {
            int n = countWith(weekday);
            return n < 2 ? size : n;
        }

        int sumOfLike(int weekday, int post, int hour) {
            boolean isAll = countWith(weekday) < 2;
            int sum = 0;
            for (int d = 0; d < size; d++) {
                if (isAll || weekdays[d] == weekday) sum += taken[d][post * HOURS + hour];
            }
            return sum;
        }
    }

    /** The best round of the van: sets of posts that were served are numbers whose bits are the posts of `wanting`. */
    private static final class Round {
        static final int MOST_WANTING = 8;
        private static final int SETS = 1 << MOST_WANTING, NEVER = 1000000;

        final int[] want = new int[MOST_POSTS];
        private final int[] wanting = new int[MOST_WANTING];
        private int size;
        /** What the van has behind a set. */
        private final int[] load = new int[SETS];
        /** By a set and the last post of it: the least ways from there till all are served. */
        private final int[] ways = new int[SETS * MOST_WANTING];

        private static int spot(int set, int last) {
            return set * MOST_WANTING + last;
        }

        int countWanting() {
            int n = 0;
            for (int v : want) {
                if (v != 0) n++;
            }
            return n;
        }

        /** The ways of the best round, NONE if there is none; for 8 wanting posts at most. */
        int leastWays(Told told, Van van) {
            gather();
            if (size == 0) return 0;
            int sets = 1 << size;
            for (int set = 0; set < sets; set++) load[set] = van.load + sumOfWants(set);
            for (int set = sets - 1; set > 0; set--) {
                for (int last = 0; last < size; last++) ways[spot(set, last)] = waysFrom(told, set, last, sets - 1);
            }
            int first = firstOfBest(told, van);
            return first == NONE ? NONE : waysOver(told, van, first);
        }

        private void gather() {
            size = 0;
            for (int p = 0; p < MOST_POSTS && size < MOST_WANTING; p++) {
                if (want[p] == 0) continue;
                wanting[size] = p;
                size++;
            }
        }

        private int sumOfWants(int set) {
            int sum = 0;
            for (int i = 0; i < size; i++) {
                if ((set >> i & 1) != 0) sum += want[wanting[i]];
            }
            return sum;
        }

        private int waysFrom(Told told, int set, int last, int whole) {
            if (load[set] < 0 || load[set] > VAN_ROOM) return NEVER;
            if (set == whole) return 0;
            int least = NEVER;
            for (int i = 0; i < size; i++) {
                if ((set >> i & 1) == 0) least = Math.min(least, waysVia(told, set, last, i));
            }
            return least;
        }

        private int waysVia(Told told, int set, int last, int next) {
            return told.minutesBetween(wanting[last], wanting[next]) + ways[spot(set | 1 << next, next)];
        }

        /** The ways of the best round that begins with this post. */
        private int waysOver(Told told, Van van, int first) {
            int p = wanting[first];
            return (p == van.at ? 0 : told.minutesBetween(van.at, p)) + ways[spot(1 << first, first)];
        }

        private int firstOfBest(Told told, Van van) {
            int best = NONE, least = NEVER;
            for (int i = 0; i < size; i++) {
                int over = waysOver(told, van, i);
                if (over < least) {
                    best = i;
                    least = over;
                }
            }
            return best;
        }

        /** The i-th post of the best round; behind leastWays(), which told that there is one. */
        int postOfOrder(Told told, Van van, int i) {
            if (i < 0 || i >= size) return NONE;
            int last = firstOfBest(told, van);
            if (last == NONE) return NONE;
            int set = 1 << last;
            for (int n = 0; n < i; n++) {
                int next = nextOfBest(told, set, last);
                if (next == NONE) return NONE;
                last = next;
                set |= 1 << next;
            }
            return wanting[last];
        }

        private int nextOfBest(Told told, int set, int last) {
            for (int i = 0; i < size; i++) {
                if ((set >> i & 1) == 0 && waysVia(told, set, last, i) == ways[spot(set, last)]) return i;
            }
            return NONE;
        }
    }

    /** Two houses that choose levels. */
    private static final class Houses {
        private static final int LEVELS = 5, PAIRS = LEVELS * LEVELS;

        /** By house and pair. */
        final int[][] gain = new int[2][PAIRS];
        private final boolean[] seen = new boolean[2 * PAIRS];

        static boolean isLevel(int v) {
            return v >= 0 && v < LEVELS;
        }

        static int pairOf(int a, int b) {
            return LEVELS * a + b;
        }

        /** What a house gains if it goes to a level of its own. */
        private int gainAt(int who, int a, int b, int level) {
            return who == 0 ? gain[0][pairOf(level, b)] : gain[1][pairOf(a, level)];
        }

        /** The level that a house goes to from a pair: its own, if none gains it more. */
        private int bestLevel(int who, int a, int b) {
            int own = who == 0 ? a : b, best = 0;
            for (int v = 1; v < LEVELS; v++) {
                if (gainAt(who, a, b, v) > gainAt(who, a, b, best)) best = v;
            }
            return gainAt(who, a, b, own) == gainAt(who, a, b, best) ? own : best;
        }

        private boolean isStill(int a, int b) {
            return bestLevel(0, a, b) == a && bestLevel(1, a, b) == b;
        }

        int countStill() {
            int n = 0;
            for (int pair = 0; pair < PAIRS; pair++) {
                if (isStill(pair / LEVELS, pair % LEVELS)) n++;
            }
            return n;
        }

        int stillPair(int i) {
            int n = 0;
            for (int pair = 0; pair < PAIRS; pair++) {
                int a = pair / LEVELS, b = pair % LEVELS;
                if (!isStill(a, b)) continue;
                if (n == i) return 10 * a + b;
                n++;
            }
            return NONE;
        }

        int turnsFrom(int firstA, int firstB) {
            int a = firstA, b = firstB, who = 0, stays = 0;
            for (int i = 0; i < seen.length; i++) seen[i] = false;
            for (int turns = 0; turns <= seen.length; turns++) {
                int key = 2 * pairOf(a, b) + who;
                if (seen[key]) return -10 - turns;
                seen[key] = true;
                int level = bestLevel(who, a, b);
                stays = level == (who == 0 ? a : b) ? stays + 1 : 0;
                // The two turns in which each stayed are not counted.
                if (stays == 2) return turns - 1;
                if (who == 0) a = level;
                else b = level;
                who = 1 - who;
            }
            return NONE;
        }
    }

    /** Sites for new posts, and wishes. A set of sites is a number whose bits are the sites. */
    private static final class Sites {
        static final int MOST_SITES = 12, MOST_WISHES = 40;
        private static final int NO_POST = 1000;

        int size, wishes;
        private final int[] siteX = new int[MOST_SITES], siteY = new int[MOST_SITES];
        private final int[] wishX = new int[MOST_WISHES], wishY = new int[MOST_WISHES], many = new int[MOST_WISHES];
        /** By wish: how far the nearest open post is. */
        private final int[] toPost = new int[MOST_WISHES];

        int addSite(int x, int y) {
            siteX[size] = x;
            siteY[size] = y;
            size++;
            return size - 1;
        }

        int addWish(int x, int y, int n) {
            wishX[wishes] = x;
            wishY[wishes] = y;
            many[wishes] = n;
            wishes++;
            return wishes - 1;
        }

        void measureOpenPosts(Told told, boolean[] isOpen) {
            for (int w = 0; w < wishes; w++) {
                toPost[w] = NO_POST;
                for (int p = 0; p < told.posts; p++) {
                    if (isOpen[p]) toPost[w] = Math.min(toPost[w], measure(w, told.x[p], told.y[p]));
                }
            }
        }

        private int measure(int w, int x, int y) {
            return Math.abs(wishX[w] - x) + Math.abs(wishY[w] - y);
        }

        /** Behind measureOpenPosts(), as sumFor() is. */
        int bestSet(int k) {
            int best = 0, least = 0;
            for (int set = 1; set < 1 << size; set++) {
                if (Integer.bitCount(set) != k) continue;
                int sum = sumFor(set);
                if (best == 0 || sum < least) {
                    best = set;
                    least = sum;
                }
            }
            return best;
        }

        int sumFor(int set) {
            int sum = 0;
            for (int w = 0; w < wishes; w++) {
                int nearest = toPost[w];
                for (int s = 0; s < size; s++) {
                    if ((set >> s & 1) != 0) nearest = Math.min(nearest, measure(w, siteX[s], siteY[s]));
                }
                sum += many[w] * nearest;
            }
            return sum;
        }
    }

    /** Tests of bikes: scores, and what was true. */
    private static final class Trials {
        static final int MOST_ROWS = 60;

        int size;
        private final int[] scores = new int[MOST_ROWS];
        private final boolean[] isFaulty = new boolean[MOST_ROWS];

        int add(int score, boolean faulty) {
            scores[size] = score;
            isFaulty[size] = faulty;
            size++;
            return size;
        }

        int countFrom(int score, boolean faulty) {
            int n = 0;
            for (int i = 0; i < size; i++) {
                if (scores[i] >= score && isFaulty[i] == faulty) n++;
            }
            return n;
        }

        /** The least score from which on those not faulty are no more than so many thousandths of all such. */
        int leastScore(int share) {
            int sound = countFrom(0, false);
            for (int c = 0; c < 101; c++) {
                if (1000 * countFrom(c, false) <= share * sound) return c;
            }
            return 101;
        }
    }
}
