/**
 * Courts of kinds one below the other, and a case of points that goes down through them.
 *
 * What a call needs for working is made once in the constructor and used again by every call,
 * because all calls of a run share one small room: no call makes an object.
 */
public final class AppealsDown {
    private static final int NOBODY = -1;
    private static final int OTHER = -2;
    private static final int STATE = -3;
    private static final int BELOW = -4;
    private static final int ROOM = -6;

    /** What a call answers where there is nothing to tell. */
    private static final int NONE = -9;

    private static final int COURT = 0;
    private static final int BENCH = 1;
    private static final int CONSTABLE = 2;
    private static final int BOY = 3;
    private static final int ASSIZE = 4;
    private static final int ALDERMAN = 5;
    private static final int KINDS = 6;

    private static final int MOST_COURTS = 7;
    private static final int MOST_POINTS = 8;
    private static final int MOST_NUMBER = 9;
    private static final int MOST_FIGURE = 9;
    private static final int MOST_COST = 99;
    private static final int MOST_STAKE = 999;
    private static final int MOST_LENGTH = 8;
    private static final int MOST_LETTERS = 96;
    private static final int MOST_IN_ROW = 16;
    private static final int MOST_CHANGES = 8;
    private static final int MOST_IN_ORDER = 5;
    private static final int MOST_ORDERS = 120;
    private static final int MOST_ROUND = 200;
    private static final int MOST_AGAIN = 60;
    private static final int MOST_STEPS = 3;

    /** How many cases of three POINTS from -4 to 4 there are. */
    private static final int CASES_OF_FOUR = 729;

    /** A refusal is told as this less its number, where the answer itself may be below 0. */
    private static final int HIGH = 1000000000;
    private static final long HIGH_LONG = 4000000000000000000L;

    private final Suit now = new Suit();
    private final Suit trial = new Suit();
    private final Suit taken = new Suit();
    private boolean isTaken = false;
    private final Letters letters = new Letters();
    private final Changes changes = new Changes();
    private final int[] told = new int[MOST_IN_ROW];
    private int toldMany = 0;
    private final int[] refusals = new int[7];

    private final Points stand = new Points();
    private final Points begun = new Points();
    private final Points other = new Points();
    private final Weighing weighing = new Weighing();
    private final Seen seen = new Seen();
    private final Going going = new Going();
    private final int[] places = new int[MOST_IN_ORDER];
    private final int[] bestPlaces = new int[MOST_IN_ORDER];

    public AppealsDown() {
    }

    // ---- letters, and what changes the case

    public int feed(int letter) {
        if (letter < 0) {
            return refuse(BELOW);
        }
        if (letter > 255 || letters.many >= MOST_LETTERS) {
            return refuse(ROOM);
        }
        return letters.take(letter);
    }

    public int caseOf() {
        int answer = tellLetters();
        letters.many = 0;
        return answer;
    }

    public int court(int court, int what) {
        if (!now.hasCourt(court)) {
            return refuse(NOBODY);
        }
        switch (what) {
            case 0:
                return now.kinds[court];
            case 1:
                return now.figures[court];
            case 2:
                return now.costs[court];
            default:
                return refuse(OTHER);
        }
    }

    public int point(int point, int v) {
        if (!now.points.has(point)) {
            return refuseHigh(NOBODY);
        }
        int wrong = outside(v, -MOST_NUMBER, MOST_NUMBER);
        if (wrong != 0) {
            return refuseHigh(wrong);
        }
        int was = now.points.number(point);
        changes.note(Changes.OF_POINT, point, was);
        now.points.put(point, v);
        return was;
    }

    public int kind(int court, int kind, int figure) {
        if (!now.hasCourt(court)) {
            return refuse(NOBODY);
        }
        if (!isKind(kind)) {
            return refuse(OTHER);
        }
        int wrong = outside(figure, 0, MOST_FIGURE);
        if (wrong != 0) {
            return refuse(wrong);
        }
        int was = 10 * now.kinds[court] + now.figures[court];
        changes.note(Changes.OF_KIND, court, was);
        now.rename(court, kind, figure);
        return was;
    }

    public int lowest(int kind, int figure, int cost) {
        if (!isKind(kind)) {
            return refuse(OTHER);
        }
        if (figure < 0 || cost < 0) {
            return refuse(BELOW);
        }
        if (!now.addLowest(kind, figure, cost)) {
            return refuse(ROOM);
        }
        changes.note(Changes.OF_LOWEST, 0, 0);
        return now.courts;
    }

    public int set(int what, int v) {
        int was;
        int wrong;
        switch (what) {
            case 0:
                was = now.points.many;
                wrong = outside(v, 1, MOST_POINTS);
                break;
            case 1:
                was = now.stake;
                wrong = outside(v, 0, MOST_STAKE);
                break;
            case 2:
                was = now.length;
                wrong = outside(v, 0, MOST_LENGTH);
                break;
            default:
                return refuse(OTHER);
        }
        if (wrong != 0) {
            return refuse(wrong);
        }
        now.change(what, v);
        changes.many = 0;
        return was;
    }

    public int back() {
        if (changes.many == 0) {
            return refuse(STATE);
        }
        return changes.takeBack(now);
    }

    // ---- going down

    public int down(int k, int what) {
        int wrong = outside(k, 0, now.courts);
        if (wrong != 0) {
            return refuseHigh(wrong);
        }
        if (what < 0 || what > 9 || (what < 8 && !now.points.has(what))) {
            return refuseHigh(OTHER);
        }
        goDownTo(k);
        if (what == 9) {
            return bit(stand.isFor());
        }
        return what == 8 ? stand.sum() : stand.number(what);
    }

    public int turns(int what) {
        if (what < 0 || what > 1) {
            return refuse(OTHER);
        }
        int first = NONE;
        int many = 0;
        goDownTo(0);
        for (int k = 0; k < now.courts; k++) {
            boolean before = stand.isFor();
            now.hear(k, stand);
            if (stand.isFor() != before) {
                many++;
                if (many == 1) {
                    first = k;
                }
            }
        }
        return what == 0 ? first : many;
    }

    public int costs(int k) {
        int wrong = outside(k, 0, now.courts);
        return wrong != 0 ? refuse(wrong) : now.costsBetween(0, k);
    }

    public int up() {
        goDownTo(0);
        for (int k = 0; k < now.courts; k++) {
            if (now.sendsBack(k, stand, now.length)) {
                return k;
            }
            now.hear(k, stand);
        }
        return NONE;
    }

    public int round(int what) {
        if (what < 0 || what > 2) {
            return refuseHigh(OTHER);
        }
        going.go(now, now.length, stand, seen);
        if (what == 2) {
            return going.circle;
        }
        if (!going.ended) {
            return what == 0 ? NONE : -99;
        }
        return what == 0 ? going.gone : stand.sum();
    }

    public int appeals(int what) {
        if (what < 0 || what > 3) {
            return refuse(OTHER);
        }
        weighing.weigh(now, stand);
        switch (what) {
            case 0:
                return weighing.through();
            case 1:
                return bit(now.courts == 0 ? stand.isFor() : weighing.endsFor[0]);
            case 2:
                return now.courts == 0 ? 0 : weighing.paysFor[0];
            default:
                return now.courts == 0 ? 0 : weighing.paysAgainst[0];
        }
    }

    public int press(int what) {
        if (what < 0 || what > 1) {
            return refuse(OTHER);
        }
        int bits = fewestPressed();
        return what == 0 || bits == NONE ? bits : Integer.bitCount(bits);
    }

    public int turnsBy(int m, int what) {
        int wrong = outside(m, 0, 2);
        if (wrong != 0) {
            return refuseHigh(wrong);
        }
        if (what < 0 || what > 1) {
            return refuseHigh(OTHER);
        }
        begun.copyFrom(now.points);
        if (m == 0) {
            return what == 0 ? playOn(now, begun, stand, 0, -HIGH, HIGH) : NONE;
        }
        int best = -HIGH;
        int bestPoint = NONE;
        for (int move = 0; move < 2 * begun.many; move++) {
            int was = begun.move(move);
            int sum = playOn(now, begun, stand, 2 * m - 1, best, HIGH);
            begun.put(move / 2, was);
            if (sum > best) {
                best = sum;
                bestPoint = move / 2;
            }
        }
        return what == 0 ? best : bestPoint;
    }

    public int standsFast() {
        goDownTo(0);
        return fastCourts();
    }

    public int survive(int f) {
        int wrong = outside(f, 0, 4);
        if (wrong != 0) {
            return refuse(wrong);
        }
        int wide = 2 * f + 1;
        int many = 0;
        for (int number = 0; number < wide * wide * wide; number++) {
            stand.beThree(number, f);
            if (fastCourts() == now.courts) {
                many++;
            }
        }
        return many;
    }

    public int fits(int f) {
        int wrong = outside(f, 0, MOST_FIGURE);
        if (wrong != 0) {
            return refuse(wrong);
        }
        if (!tellsNumbers(2 * now.points.many)) {
            return refuse(STATE);
        }
        readTold(begun, 0, 2);
        readTold(other, 1, 2);
        int bits = 0;
        for (int kind = 0; kind < KINDS; kind++) {
            stand.copyFrom(begun);
            stand.suffer(kind, f);
            if (stand.isAs(other)) {
                bits |= 1 << kind;
            }
        }
        return bits;
    }

    public int first(int i) {
        if (i < -1) {
            return refuseHigh(BELOW);
        }
        if (now.points.many != 3) {
            return refuseHigh(STATE);
        }
        int many = 0;
        int leastSum = HIGH;
        for (int number = 0; number < CASES_OF_FOUR; number++) {
            begun.beThree(number, 4);
            stand.copyFrom(begun);
            now.goDown(stand, now.courts);
            if (stand.isAs(now.points)) {
                many++;
                if (begun.sum() < leastSum) {
                    leastSum = begun.sum();
                    other.copyFrom(begun);
                }
            }
        }
        if (i == -1) {
            return many;
        }
        return many == 0 || i > 2 ? NONE : other.number(i);
    }

    public int apart(int one, int other, int f) {
        if (!isKind(one) || !isKind(other)) {
            return refuse(OTHER);
        }
        int wrong = outside(f, 0, MOST_FIGURE);
        if (wrong != 0) {
            return refuse(wrong);
        }
        for (int number = 0; number < CASES_OF_FOUR; number++) {
            stand.beThree(number, 4);
            begun.copyFrom(stand);
            stand.suffer(one, f);
            begun.suffer(other, f);
            if (!stand.isAs(begun)) {
                return number;
            }
        }
        return NONE;
    }

    // ---- what it is worth, and what it costs

    public int treaty(int k, int what) {
        if (now.courts == 0) {
            return refuse(STATE);
        }
        int wrong = outside(k, 0, now.courts - 1);
        if (wrong != 0) {
            return refuse(wrong);
        }
        if (what < 0 || what > 1) {
            return refuse(OTHER);
        }
        weighing.weigh(now, stand);
        return what == 0 ? weighing.paysFor[k] + weighing.paysAgainst[k] : bit(weighing.goesOn[k]);
    }

    public int share(int court) {
        if (!now.hasCourt(court)) {
            return refuse(NOBODY);
        }
        weighing.weigh(now, stand);
        if (court == 0 || court >= weighing.through()) {
            return NONE;
        }
        return bit(weighing.forBehind[court - 1]);
    }

    public long bedtime(int t, int part) {
        int wrong = outside(t, 2, 20);
        if (wrong != 0) {
            return refuseLong(wrong);
        }
        if (part < 0 || part > 1) {
            return refuseLong(OTHER);
        }
        long above = 0;
        for (int asleep = 0; asleep < 1 << now.courts; asleep++) {
            goDownAsleep(asleep);
            if (stand.isFor()) {
                above += power(t - 1, now.courts - Integer.bitCount(asleep));
            }
        }
        long below = power(t, now.courts);
        long both = commonDivisor(above, below);
        if (both == 0) {
            return part;
        }
        return part == 0 ? above / both : below / both;
    }

    public int order() {
        goDownTo(now.courts);
        int best = stand.sum();
        int answer = NONE;
        for (int one = 0; one < now.courts; one++) {
            for (int two = one + 1; two < now.courts; two++) {
                goDownSwapped(one, two);
                if (stand.sum() > best) {
                    best = stand.sum();
                    answer = 10 * one + two;
                }
            }
        }
        return answer;
    }

    public int bestOrder(int i) {
        if (now.courts > MOST_IN_ORDER) {
            return refuseHigh(STATE);
        }
        if (i < -1) {
            return refuseHigh(BELOW);
        }
        int best = findBestOrder();
        if (i == -1) {
            return best;
        }
        return i < now.courts && i < bestPlaces.length ? bestPlaces[i] : NONE;
    }

    public int needed(int point) {
        if (!now.points.has(point)) {
            return refuse(NOBODY);
        }
        for (int v = -MOST_NUMBER; v <= MOST_NUMBER; v++) {
            stand.copyFrom(now.points);
            stand.put(point, v);
            now.goDown(stand, now.courts);
            if (stand.isFor()) {
                return v;
            }
        }
        return -99;
    }

    public int cheapest() {
        boolean is = isForBehindAll();
        int best = NONE;
        int bestCost = -1;
        for (int k = 0; k < now.courts; k++) {
            goDownAsleep(1 << k);
            if (stand.isFor() == is && now.costs[k] > bestCost) {
                best = k;
                bestCost = now.costs[k];
            }
        }
        return best;
    }

    public int biggest(int what) {
        if (what < 0 || what > 1) {
            return refuseHigh(OTHER);
        }
        int by = 0;
        int best = NONE;
        goDownTo(0);
        for (int k = 0; k < now.courts; k++) {
            int before = stand.sum();
            now.hear(k, stand);
            int step = stand.sum() - before;
            if (Math.abs(step) > Math.abs(by)) {
                by = step;
                best = k;
            }
        }
        return what == 0 ? best : by;
    }

    public int swing() {
        boolean is = isForBehindAll();
        int bits = 0;
        for (int point = 0; point < now.points.many; point++) {
            stand.copyFrom(now.points);
            stand.put(point, -stand.number(point));
            now.goDown(stand, now.courts);
            if (stand.isFor() != is) {
                bits |= 1 << point;
            }
        }
        return bits;
    }

    public int rounds() {
        int bits = 0;
        for (int length = 0; length <= MOST_LENGTH; length++) {
            going.go(now, length, stand, seen);
            if (going.ended) {
                bits |= 1 << length;
            }
        }
        return bits;
    }

    // ---- courts one beside the other

    public int worst(int court, int what) {
        if (!now.hasCourt(court)) {
            return refuse(NOBODY);
        }
        if (what < 0 || what > 1) {
            return refuse(OTHER);
        }
        int worst = 0;
        int least = HIGH;
        for (int kind = 0; kind < KINDS; kind++) {
            goDownWith(court, kind);
            if (stand.sum() < least) {
                least = stand.sum();
                worst = kind;
            }
        }
        return what == 0 ? worst : least + 100;
    }

    public int same() {
        int many = 0;
        for (int one = 0; one < now.courts; one++) {
            for (int two = one + 1; two < now.courts; two++) {
                stand.copyFrom(now.points);
                other.copyFrom(now.points);
                now.hear(one, stand);
                now.hear(two, other);
                if (stand.isAs(other)) {
                    many++;
                }
            }
        }
        return many;
    }

    public int dead() {
        int from = 0;
        goDownTo(0);
        for (int k = 0; k < now.courts; k++) {
            if (changesAny(k)) {
                from = k + 1;
            }
        }
        return from < now.courts ? from : NONE;
    }

    public int flip(int what) {
        if (what < 0 || what > 1) {
            return refuse(OTHER);
        }
        int best = fewestAsleep();
        return what == 1 || best == NONE ? best : Integer.bitCount(best);
    }

    public int margin() {
        boolean is = isForBehindAll();
        int moves = 2 * now.points.many;
        int ways = 1;
        for (int steps = 1; steps <= MOST_STEPS; steps++) {
            ways *= moves;
            for (int way = 0; way < ways; way++) {
                if (!stepAway(way, steps)) {
                    continue;
                }
                now.goDown(stand, now.courts);
                if (stand.isFor() != is) {
                    return steps;
                }
            }
        }
        return NONE;
    }

    public int beats() {
        if (!tellsNumbers(now.points.many)) {
            return refuse(STATE);
        }
        readTold(other, 0, 1);
        now.goDown(other, now.courts);
        goDownTo(now.courts);
        return bit(other.sum() > stand.sum());
    }

    public int commute(int one, int other) {
        if (!now.hasCourt(one) || !now.hasCourt(other) || one == other) {
            return refuse(NOBODY);
        }
        stand.copyFrom(now.points);
        begun.copyFrom(now.points);
        now.hear(one, stand);
        now.hear(other, stand);
        now.hear(other, begun);
        now.hear(one, begun);
        return bit(stand.isAs(begun));
    }

    public int again(int court, int what) {
        if (!now.hasCourt(court)) {
            return refuse(NOBODY);
        }
        if (what < 0 || what > 1) {
            return refuse(OTHER);
        }
        goDownTo(0);
        seen.many = 0;
        seen.note(stand.told(), 0);
        for (int times = 1; times <= MOST_AGAIN; times++) {
            now.hear(court, stand);
            int once = seen.find(stand.told());
            if (once >= 0) {
                return what == 0 ? times : times - once;
            }
            seen.note(stand.told(), times);
        }
        return NONE;
    }

    public int bestLowest(int f) {
        int wrong = outside(f, 0, MOST_FIGURE);
        if (wrong != 0) {
            return refuse(wrong);
        }
        int best = 0;
        int most = -HIGH;
        for (int kind = 0; kind < KINDS; kind++) {
            goDownTo(now.courts);
            now.hearAs(kind, f, stand);
            if (stand.sum() > most) {
                most = stand.sum();
                best = kind;
            }
        }
        return best;
    }

    public int peak(int what) {
        if (what < 0 || what > 1) {
            return refuse(OTHER);
        }
        goDownTo(0);
        int behind = 0;
        int most = stand.sum();
        for (int k = 0; k < now.courts; k++) {
            now.hear(k, stand);
            if (stand.sum() > most) {
                most = stand.sum();
                behind = k + 1;
            }
        }
        return what == 0 ? behind : most + 100;
    }

    public int fullStake() {
        if (now.courts == 0) {
            return refuse(STATE);
        }
        weighing.weigh(now, stand);
        int last = now.courts - 1;
        for (int k = 0; k < last; k++) {
            if (weighing.forBehind[k] == weighing.forBehind[last]) {
                return NONE;
            }
        }
        // One side alone lost at every court above the lowest, so it pays for all but the first.
        return last == 0 ? 0 : now.costsBetween(1, now.courts) + 1;
    }

    public int heard() {
        int many = 0;
        goDownTo(0);
        for (int k = 0; k < now.courts; k++) {
            if (changesAny(k)) {
                many++;
            }
        }
        return many;
    }

    public int lastSay() {
        if (now.courts == 0) {
            return refuse(STATE);
        }
        int bits = 0;
        for (int kind = 0; kind < KINDS; kind++) {
            goDownWith(now.courts - 1, kind);
            if (stand.isFor()) {
                bits |= 1 << kind;
            }
        }
        return bits;
    }

    // ---- the row, lots, the image, counts

    public int row(int v) {
        if (v < 0) {
            return refuse(BELOW);
        }
        if (v > 99 || toldMany >= told.length) {
            return refuse(ROOM);
        }
        told[toldMany] = v;
        toldMany++;
        return toldMany;
    }

    public int judge() {
        int answer = firstNotSo();
        toldMany = 0;
        return answer;
    }

    public int clear() {
        int had = toldMany;
        toldMany = 0;
        return had;
    }

    public int lots(int n, int z, int what) {
        int wrong = outside(n, 1, 20);
        if (wrong != 0) {
            return refuse(wrong);
        }
        if (what < 0 || what > 1) {
            return refuse(OTHER);
        }
        int seed = z;
        int manyFor = 0;
        int manyOther = 0;
        stand.copyFrom(now.points);
        for (int lot = 0; lot < n; lot++) {
            for (int point = 0; point < stand.many; point++) {
                seed = seed * 1103515245 + 12345;
                stand.put(point, (seed & 0x7FFFFFFF) / 65536 % 19 - 9);
            }
            boolean atFirst = stand.isFor();
            now.goDown(stand, now.courts);
            manyFor += bit(stand.isFor());
            manyOther += bit(stand.isFor() != atFirst);
        }
        return what == 0 ? manyFor : manyOther;
    }

    public int image() {
        taken.copyFrom(now);
        isTaken = true;
        return now.courts;
    }

    public int restore() {
        if (!isTaken) {
            return refuse(STATE);
        }
        now.copyFrom(taken);
        changes.many = 0;
        return now.courts;
    }

    public int count(int what) {
        switch (what) {
            case 0:
                return now.courts;
            case 1:
                return now.points.many;
            case 2:
                return now.stake;
            case 3:
                return now.length;
            case 4:
                return letters.many;
            case 5:
                return toldMany;
            case 6:
                return changes.many;
            case 7:
                return now.points.notZero();
            default:
                return what >= 11 && what <= 16 ? refusals[what - 10] : NONE;
        }
    }

    // ---- refusing

    private int refuse(int number) {
        int place = -number;
        if (place > 0 && place < refusals.length) {
            refusals[place]++;
        }
        return number;
    }

    private int refuseHigh(int number) {
        return HIGH - refuse(number);
    }

    private long refuseLong(int number) {
        return HIGH_LONG - refuse(number);
    }

    /** BELOW, ROOM, or 0 where v is as it must be. */
    private static int outside(int v, int least, int most) {
        if (v < least) {
            return BELOW;
        }
        return v > most ? ROOM : 0;
    }

    private static boolean isKind(int kind) {
        return kind >= 0 && kind < KINDS;
    }

    private static int bit(boolean is) {
        return is ? 1 : 0;
    }

    // ---- what several calls do

    /** The letters become the case: how many STATEMENTS, or the FAULT. */
    private int tellLetters() {
        int bad = letters.firstBad();
        if (bad >= 0) {
            return -1000 - bad;
        }
        trial.copyFrom(now);
        int statements = 0;
        for (int at = 0; at < letters.many; at++) {
            if (letters.beginsAt(at)) {
                if (!letters.tellOne(at, trial)) {
                    return -2000 - at;
                }
                statements++;
            }
        }
        now.copyFrom(trial);
        changes.many = 0;
        return statements;
    }

    /** Into stand: what stands behind the courts 0 .. k less 1. */
    private void goDownTo(int k) {
        stand.copyFrom(now.points);
        now.goDown(stand, k);
    }

    private boolean isForBehindAll() {
        stand.copyFrom(now.points);
        now.goDown(stand, now.courts);
        return stand.isFor();
    }

    /** Into stand: what stands behind all, while the courts of these bits do nothing. */
    private void goDownAsleep(int asleep) {
        stand.copyFrom(now.points);
        for (int k = 0; k < now.courts; k++) {
            if ((asleep >> k & 1) == 0) {
                now.hear(k, stand);
            }
        }
    }

    /** Into stand: what stands behind all, when these two courts have changed places. */
    private void goDownSwapped(int one, int two) {
        stand.copyFrom(now.points);
        for (int k = 0; k < now.courts; k++) {
            if (k == one) {
                now.hear(two, stand);
            } else {
                now.hear(k == two ? one : k, stand);
            }
        }
    }

    /** Into stand: what stands behind all, if one court were of another kind. */
    private void goDownWith(int court, int kind) {
        stand.copyFrom(now.points);
        for (int k = 0; k < now.courts; k++) {
            if (k == court) {
                now.hearAs(kind, now.figures[k], stand);
            } else {
                now.hear(k, stand);
            }
        }
    }

    /** Court k hears stand: whether it changes any POINT. */
    private boolean changesAny(int k) {
        other.copyFrom(stand);
        now.hear(k, stand);
        return !stand.isAs(other);
    }

    /** How many courts stand goes through with FOR as it was at first. */
    private int fastCourts() {
        boolean atFirst = stand.isFor();
        for (int k = 0; k < now.courts; k++) {
            now.hear(k, stand);
            if (stand.isFor() != atFirst) {
                return k;
            }
        }
        return now.courts;
    }

    private int fewestPressed() {
        int best = NONE;
        for (int bits = 0; bits < 1 << now.points.many; bits++) {
            if (best != NONE && Integer.bitCount(bits) >= Integer.bitCount(best)) {
                continue;
            }
            stand.copyFrom(now.points);
            for (int point = 0; point < stand.many; point++) {
                stand.put(point, stand.number(point) + (bits >> point & 1));
            }
            now.goDown(stand, now.courts);
            if (stand.isFor()) {
                best = bits;
            }
        }
        return best;
    }

    private int fewestAsleep() {
        boolean is = isForBehindAll();
        int best = NONE;
        for (int bits = 1; bits < 1 << now.courts; bits++) {
            if (best != NONE && Integer.bitCount(bits) >= Integer.bitCount(best)) {
                continue;
            }
            goDownAsleep(bits);
            if (stand.isFor() != is) {
                best = bits;
            }
        }
        return best;
    }

    /**
     * The SUM behind all when the sides move on by turns, left moves from p on (who is for, if left is even).
     * What it answers is held between low and high: beyond them the side that moves ahead of this
     * has a better move already, so the rest need not be looked at.
     */
    private static int playOn(Suit suit, Points p, Points end, int left, int low, int high) {
        if (left <= 0) {
            end.copyFrom(p);
            suit.goDown(end, suit.courts);
            return Math.max(low, Math.min(high, end.sum()));
        }
        boolean wantsMost = left % 2 == 0;
        int least = low;
        int most = high;
        for (int move = 0; move < 2 * p.many && least < most; move++) {
            int was = p.move(move);
            int sum = playOn(suit, p, end, left - 1, least, most);
            p.put(move / 2, was);
            if (wantsMost) {
                least = Math.max(least, sum);
            } else {
                most = Math.min(most, sum);
            }
        }
        return wantsMost ? least : most;
    }

    /**
     * Into stand: the POINTS after so many steps, told by way, a digit for each. False where a way
     * with the same steps in rising order is there too: that one alone need be looked at.
     */
    private boolean stepAway(int way, int steps) {
        stand.copyFrom(now.points);
        int moves = 2 * stand.many;
        int rest = way;
        int last = 0;
        for (int step = 0; step < steps && moves > 0; step++) {
            int move = rest % moves;
            if (move < last) {
                return false;
            }
            stand.move(move);
            last = move;
            rest = rest / moves;
        }
        return true;
    }

    /** Goes through all orders, the first ones first: the most SUM; bestPlaces the first order with it. */
    private int findBestOrder() {
        int n = Math.min(now.courts, places.length);
        for (int i = 0; i < n; i++) {
            places[i] = i;
        }
        int best = -HIGH;
        boolean goesOn = true;
        for (int orders = 0; orders < MOST_ORDERS && goesOn; orders++) {
            stand.copyFrom(now.points);
            for (int i = 0; i < n; i++) {
                now.hear(places[i], stand);
            }
            if (stand.sum() > best) {
                best = stand.sum();
                System.arraycopy(places, 0, bestPlaces, 0, n);
            }
            goesOn = toNextOrder(n);
        }
        return best;
    }

    /** The next order of the first n places, as if told by rising numbers; false behind the last. */
    private boolean toNextOrder(int n) {
        int turn = n - 2;
        while (turn >= 0 && places[turn] > places[turn + 1]) {
            turn--;
        }
        if (turn < 0) {
            return false;
        }
        int with = n - 1;
        while (with > turn && places[with] < places[turn]) {
            with--;
        }
        swapPlaces(turn, with);
        int to = n - 1;
        for (int from = turn + 1; from < to; from++) {
            swapPlaces(from, to);
            to--;
        }
        return true;
    }

    private void swapPlaces(int one, int two) {
        int was = places[one];
        places[one] = places[two];
        places[two] = was;
    }

    /** Whether the ROW has so many numbers, none above 18: POINTS, and 9 each. */
    private boolean tellsNumbers(int many) {
        if (toldMany != many) {
            return false;
        }
        for (int i = 0; i < toldMany; i++) {
            if (told[i] > 2 * MOST_NUMBER) {
                return false;
            }
        }
        return true;
    }

    /** Into p: the POINTS that the ROW tells from a place on, one in so many numbers. */
    private void readTold(Points p, int from, int step) {
        p.copyFrom(now.points);
        for (int point = 0; point < p.many; point++) {
            int at = from + step * point;
            if (at >= 0 && at < toldMany) {
                p.put(point, told[at] - MOST_NUMBER);
            }
        }
    }

    private int firstNotSo() {
        goDownTo(0);
        for (int i = 0; i < toldMany; i++) {
            if (i > now.courts || told[i] != stand.sum() + 50) {
                return i;
            }
            now.hear(i, stand);
        }
        return NONE;
    }

    private static long power(int base, int times) {
        long all = 1;
        for (int i = 0; i < times; i++) {
            all *= base;
        }
        return all;
    }

    /** Of numbers not below 0; the rest at least halves at every second step, so 200 are plenty. */
    private static long commonDivisor(long one, long two) {
        long a = one;
        long b = two;
        for (int step = 0; step < 200 && b != 0; step++) {
            long rest = a % b;
            a = b;
            b = rest;
        }
        return a;
    }

    // ---- classes

    /** The numbers of the POINTS, as they stand somewhere on the way. Beyond how many there are all are 0. */
    private static final class Points {
        private final int[] numbers = new int[MOST_POINTS];
        private int many = 4;

        private boolean has(int point) {
            return point >= 0 && point < many;
        }

        private int number(int point) {
            return has(point) ? numbers[point] : 0;
        }

        /** Held -9 to 9. */
        private void put(int point, int v) {
            if (has(point)) {
                numbers[point] = Math.max(-MOST_NUMBER, Math.min(MOST_NUMBER, v));
            }
        }

        /** Move 2 times p makes POINT p 1 more, the next one 1 less: the number it had. */
        private int move(int move) {
            int was = number(move / 2);
            put(move / 2, move % 2 == 0 ? was + 1 : was - 1);
            return was;
        }

        private void resize(int v) {
            many = Math.max(1, Math.min(MOST_POINTS, v));
            for (int point = many; point < MOST_POINTS; point++) {
                numbers[point] = 0;
            }
        }

        private void copyFrom(Points from) {
            many = from.many;
            System.arraycopy(from.numbers, 0, numbers, 0, MOST_POINTS);
        }

        /** The case with this number (from 0) of those of three POINTS from -f to f, the last rising first. */
        private void beThree(int number, int f) {
            int wide = 2 * Math.max(0, f) + 1;
            resize(3);
            put(0, number / (wide * wide) - f);
            put(1, number / wide % wide - f);
            put(2, number % wide - f);
        }

        private int sum() {
            int sum = 0;
            for (int point = 0; point < many; point++) {
                sum += numbers[point];
            }
            return sum;
        }

        private boolean isFor() {
            return sum() > 0;
        }

        private int notZero() {
            int count = 0;
            for (int point = 0; point < many; point++) {
                if (numbers[point] != 0) {
                    count++;
                }
            }
            return count;
        }

        private boolean isAs(Points other) {
            if (many != other.many) {
                return false;
            }
            for (int point = 0; point < many; point++) {
                if (numbers[point] != other.numbers[point]) {
                    return false;
                }
            }
            return true;
        }

        /** All numbers in one, to be kept and compared. */
        private long told() {
            long all = 0;
            for (int point = 0; point < many; point++) {
                all = all * 19 + numbers[point] + MOST_NUMBER;
            }
            return all;
        }

        private int surest() {
            int best = 0;
            int most = 0;
            for (int point = 0; point < many; point++) {
                int size = numbers[point] < 0 ? -numbers[point] : numbers[point];
                if (size > most) {
                    most = size;
                    best = point;
                }
            }
            return best;
        }

        /** What a court of this kind does; whether it sends it back is not asked here. */
        private void suffer(int kind, int figure) {
            int surest = surest();
            switch (kind) {
                case COURT:
                    halve(surest);
                    break;
                case BENCH:
                    turn(surest);
                    break;
                case CONSTABLE:
                    turn(surest);
                    lessenBehind(surest);
                    break;
                case BOY:
                    bringOver(surest, figure);
                    break;
                case ASSIZE:
                    halve(surest);
                    bringOthersNearer(surest);
                    break;
                case ALDERMAN:
                    turn(surest);
                    lessenBehind(surest);
                    halve(surest());
                    break;
                default:
                    break;
            }
        }

        /** Division cuts toward 0, as a COURT does. */
        private void halve(int point) {
            if (has(point)) {
                numbers[point] = numbers[point] / 2;
            }
        }

        private void turn(int point) {
            if (has(point)) {
                numbers[point] = -numbers[point];
            }
        }

        private void lessenBehind(int point) {
            int behind = point + 1 < many ? point + 1 : 0;
            if (many > 1 && has(behind) && numbers[behind] > -MOST_NUMBER) {
                numbers[behind]--;
            }
        }

        private void bringOver(int point, int figure) {
            if (!has(point)) {
                return;
            }
            if (numbers[point] < 0) {
                numbers[point] = figure;
            } else if (numbers[point] > 0) {
                numbers[point] = -figure;
            }
        }

        private void bringOthersNearer(int surest) {
            for (int point = 0; point < many; point++) {
                if (point == surest) {
                    continue;
                }
                if (numbers[point] > 0) {
                    numbers[point]--;
                } else if (numbers[point] < 0) {
                    numbers[point]++;
                }
            }
        }
    }

    /** All that part I tells: the courts, the POINTS, STAKE, LENGTH. */
    private static final class Suit {
        private final int[] kinds = new int[MOST_COURTS];
        private final int[] figures = new int[MOST_COURTS];
        private final int[] costs = new int[MOST_COURTS];
        private int courts = 0;
        private final Points points = new Points();
        private int stake = 100;
        private int length = 6;

        private boolean hasCourt(int court) {
            return court >= 0 && court < courts;
        }

        private void copyFrom(Suit from) {
            System.arraycopy(from.kinds, 0, kinds, 0, MOST_COURTS);
            System.arraycopy(from.figures, 0, figures, 0, MOST_COURTS);
            System.arraycopy(from.costs, 0, costs, 0, MOST_COURTS);
            courts = from.courts;
            points.copyFrom(from.points);
            stake = from.stake;
            length = from.length;
        }

        private void rename(int court, int kind, int figure) {
            if (hasCourt(court)) {
                kinds[court] = kind;
                figures[court] = figure;
            }
        }

        /** False, and nothing is changed, if a number is not as it must be or there is no room. */
        private boolean addLowest(int kind, int figure, int cost) {
            if (courts >= MOST_COURTS || !isKind(kind)) {
                return false;
            }
            if (outside(figure, 0, MOST_FIGURE) != 0 || outside(cost, 0, MOST_COST) != 0) {
                return false;
            }
            kinds[courts] = kind;
            figures[courts] = figure;
            costs[courts] = cost;
            courts++;
            return true;
        }

        private boolean loseLowest() {
            if (courts == 0) {
                return false;
            }
            courts--;
            return true;
        }

        /** How many POINTS (0), STAKE (1), LENGTH (2) becomes v; false if it can't. */
        private boolean change(int what, int v) {
            switch (what) {
                case 0:
                    if (outside(v, 1, MOST_POINTS) != 0) {
                        return false;
                    }
                    points.resize(v);
                    return true;
                case 1:
                    if (outside(v, 0, MOST_STAKE) != 0) {
                        return false;
                    }
                    stake = v;
                    return true;
                case 2:
                    if (outside(v, 0, MOST_LENGTH) != 0) {
                        return false;
                    }
                    length = v;
                    return true;
                default:
                    return false;
            }
        }

        private boolean changePoint(int point, int v) {
            if (!points.has(point)) {
                return false;
            }
            points.put(point, v);
            return true;
        }

        private int costsBetween(int from, int to) {
            int all = 0;
            for (int k = Math.max(0, from); k < to && k < courts; k++) {
                all += costs[k];
            }
            return all;
        }

        private boolean sendsBack(int k, Points p, int limit) {
            return hasCourt(k) && kinds[k] == BOY && p.notZero() > limit;
        }

        /** Court k changes p; a BOY who would send it back does nothing. */
        private void hear(int k, Points p) {
            if (hasCourt(k)) {
                hearAs(kinds[k], figures[k], p);
            }
        }

        private void hearAs(int kind, int figure, Points p) {
            if (kind == BOY && p.notZero() > length) {
                return;
            }
            p.suffer(kind, figure);
        }

        private void goDown(Points p, int k) {
            for (int court = 0; court < k && court < courts; court++) {
                hearAs(kinds[court], figures[court], p);
            }
        }
    }

    /** The letters that have come, and the STATEMENTS in them. */
    private static final class Letters {
        private final int[] signs = new int[MOST_LETTERS];
        private int many = 0;

        private int take(int letter) {
            if (many < MOST_LETTERS) {
                signs[many] = letter;
                many++;
            }
            return many;
        }

        private int sign(int at) {
            return at >= 0 && at < many ? signs[at] : -1;
        }

        private int digit(int at) {
            return sign(at) - '0';
        }

        /** How the STATEMENT that begins so is told: 0 for a digit, + for a sign; empty if none does. */
        private static String shape(int opening) {
            switch (opening) {
                case 'c':
                    return "c0000;";
                case 'n':
                    return "n0;";
                case 'p':
                    return "p0+0;";
                case 's':
                    return "s000;";
                case 'l':
                    return "l0;";
                case 'u':
                    return "u;";
                default:
                    return "";
            }
        }

        private static boolean suits(int letter, int wanted) {
            if (wanted == '0') {
                return letter >= '0' && letter <= '9';
            }
            return wanted == '+' ? letter == '+' || letter == '-' : letter == wanted;
        }

        /** The place of the first letter with which no CASE can go on, or the end; -1 if all is well. */
        private int firstBad() {
            String shape = "";
            int inShape = 0;
            for (int at = 0; at < many; at++) {
                if (inShape >= shape.length()) {
                    shape = shape(signs[at]);
                    inShape = 0;
                }
                if (shape.isEmpty() || !suits(signs[at], shape.charAt(inShape))) {
                    return at;
                }
                inShape++;
            }
            return many > 0 && inShape == shape.length() ? -1 : many;
        }

        /** Whether a STATEMENT begins at a place (of letters that are well told). */
        private boolean beginsAt(int at) {
            return at == 0 || sign(at - 1) == ';';
        }

        /** The STATEMENT at a place comes to be; false if it is not as it must be. */
        private boolean tellOne(int at, Suit suit) {
            switch (sign(at)) {
                case 'c':
                    return suit.addLowest(digit(at + 1), digit(at + 2), 10 * digit(at + 3) + digit(at + 4));
                case 'n':
                    return suit.change(0, digit(at + 1));
                case 'p':
                    return suit.changePoint(digit(at + 1), sign(at + 2) == '-' ? -digit(at + 3) : digit(at + 3));
                case 's':
                    return suit.change(1, 100 * digit(at + 1) + 10 * digit(at + 2) + digit(at + 3));
                case 'l':
                    return suit.change(2, digit(at + 1));
                case 'u':
                    return suit.loseLowest();
                default:
                    return false;
            }
        }
    }

    /** What can be TAKEN BACK: what changed, where, and what was there. */
    private static final class Changes {
        private static final int OF_POINT = 0;
        private static final int OF_KIND = 1;
        private static final int OF_LOWEST = 2;

        private final int[] whats = new int[MOST_CHANGES];
        private final int[] wheres = new int[MOST_CHANGES];
        private final int[] olds = new int[MOST_CHANGES];
        private int many = 0;

        private void note(int what, int where, int old) {
            if (many >= MOST_CHANGES) {
                forgetOldest();
            }
            whats[many] = what;
            wheres[many] = where;
            olds[many] = old;
            many++;
        }

        private void forgetOldest() {
            many = MOST_CHANGES - 1;
            for (int i = 0; i < many; i++) {
                whats[i] = whats[i + 1];
                wheres[i] = wheres[i + 1];
                olds[i] = olds[i + 1];
            }
        }

        /** The latest one: how many are left. */
        private int takeBack(Suit suit) {
            if (many == 0) {
                return 0;
            }
            many--;
            switch (whats[many]) {
                case OF_POINT:
                    suit.changePoint(wheres[many], olds[many]);
                    break;
                case OF_KIND:
                    suit.rename(wheres[many], olds[many] / 10, olds[many] % 10);
                    break;
                default:
                    suit.loseLowest();
                    break;
            }
            return many;
        }
    }

    /** APPEALS from behind each court on: who goes on, who wins in the end, what each side pays. */
    private static final class Weighing {
        private final boolean[] forBehind = new boolean[MOST_COURTS];
        private final boolean[] goesOn = new boolean[MOST_COURTS];
        private final boolean[] endsFor = new boolean[MOST_COURTS];
        private final int[] paysFor = new int[MOST_COURTS];
        private final int[] paysAgainst = new int[MOST_COURTS];
        private int courts = 0;

        /** From the lowest up, because whoever goes on looks at how all below him will. */
        private void weigh(Suit suit, Points p) {
            courts = suit.courts;
            p.copyFrom(suit.points);
            for (int k = 0; k < courts; k++) {
                suit.hear(k, p);
                forBehind[k] = p.isFor();
            }
            for (int k = courts - 1; k >= 0; k--) {
                goesOn[k] = false;
                endsFor[k] = forBehind[k];
                paysFor[k] = 0;
                paysAgainst[k] = 0;
                if (k < courts - 1) {
                    weighStep(suit, k);
                }
            }
        }

        private void weighStep(Suit suit, int k) {
            boolean loserIsFor = !forBehind[k];
            int price = suit.costs[k + 1];
            int pays = price + (loserIsFor ? paysFor[k + 1] : paysAgainst[k + 1]);
            if (endsFor[k + 1] != loserIsFor || suit.stake <= pays) {
                return;
            }
            goesOn[k] = true;
            endsFor[k] = endsFor[k + 1];
            paysFor[k] = paysFor[k + 1] + (loserIsFor ? price : 0);
            paysAgainst[k] = paysAgainst[k + 1] + (loserIsFor ? 0 : price);
        }

        /** How many courts it goes through. */
        private int through() {
            if (courts == 0) {
                return 0;
            }
            int k = 0;
            while (k < courts - 1 && goesOn[k]) {
                k++;
            }
            return k + 1;
        }
    }

    /** POINTS that have been, and when each was. */
    private static final class Seen {
        private final long[] all = new long[MOST_ROUND + 1];
        private final int[] whens = new int[MOST_ROUND + 1];
        private int many = 0;

        private void note(long points, int when) {
            if (many < all.length) {
                all[many] = points;
                whens[many] = when;
                many++;
            }
        }

        /** When these were; -1 never. */
        private int find(long points) {
            for (int i = 0; i < many; i++) {
                if (all[i] == points) {
                    return whens[i];
                }
            }
            return -1;
        }
    }

    /** ROUND: going on at court 0 whenever a BOY sends it back. */
    private static final class Going {
        private boolean ended = false;
        private int gone = 0;
        private int circle = NONE;

        private void go(Suit suit, int length, Points p, Seen seen) {
            p.copyFrom(suit.points);
            seen.many = 0;
            seen.note(p.told(), 0);
            gone = 0;
            circle = NONE;
            int at = 0;
            // Once it stands at court 0 as it did before it can never end.
            while (at < suit.courts && gone < MOST_ROUND && circle == NONE) {
                gone++;
                if (suit.sendsBack(at, p, length)) {
                    at = 0;
                    comeToFirst(p, seen);
                } else {
                    p.suffer(suit.kinds[at], suit.figures[at]);
                    at++;
                }
            }
            ended = at >= suit.courts;
        }

        private void comeToFirst(Points p, Seen seen) {
            int once = seen.find(p.told());
            if (once >= 0) {
                circle = gone - once;
            } else {
                seen.note(p.told(), gone);
            }
        }
    }
}
