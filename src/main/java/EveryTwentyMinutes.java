/**
 * A town hall on a Saturday on which couples are married one behind the other.
 * The numbered promises of DOC.md say what each call answers.
 */
public final class EveryTwentyMinutes {
    private static final int NONE = -9;
    private static final int NOBODY = -1;
    private static final int OTHER = -2;
    private static final int STATE = -3;
    private static final int BELOW = -4;
    private static final int ROOM = -6;
    private static final int LATEST_AT = 240;
    private static final int MOST_ROOMS = 2;
    private static final int LONGEST_REST = 30;
    private static final int MOST_TOLD = 12;
    private static final int ASKING = 4;
    /** More than any sum of minutes. */
    private static final int MUCH = 1000000000;
    private static final int TOLD_REFUSAL = 1000000000;
    private static final long LONG_REFUSAL = 4000000000000000000L;

    private final Hall now = new Hall();
    private final Hall trial = new Hall();
    private final Hall imaged = new Hall();
    private boolean hasImage = false;
    private final Past past = new Past();
    private final Letters letters = new Letters();
    private final BestOrder bestOrder = new BestOrder();
    private final Fountain turns = new Fountain();
    private final int[] told = new int[MOST_TOLD];
    private int toldMany = 0;
    private final int[] refusals = new int[7];

    public EveryTwentyMinutes() {
    }

    // ---- I: what there is and what is done to it

    public int feed(int letter) {
        if (letter < 0) {
            return refused(BELOW);
        }
        if (letter > 255 || !letters.take(letter)) {
            return refused(ROOM);
        }
        return letters.many;
    }

    public int hall() {
        int bad = letters.faultyPlace();
        int answer;
        if (bad >= 0) {
            answer = -1000 - bad;
        } else {
            // The statements are tried on a copy, as a fault lets nothing come.
            Hall tried = asNow();
            answer = letters.tellTo(tried);
            if (answer > 0) {
                now.become(tried);
                past.forget();
            }
        }
        letters.many = 0;
        return answer;
    }

    public int coupleOf(int couple, int what) {
        if (!now.has(couple)) {
            return refused(NOBODY);
        }
        switch (what) {
            case 0:
                return now.kind[couple];
            case 1:
                return now.figure[couple];
            case 2:
                return now.at[couple];
            case 3:
                return now.isWed(couple) ? 1 : 0;
            case 4:
                return now.lastsOf(couple);
            case 5:
                return now.readyOf(couple);
            case 6:
                return now.guestsOf(couple);
            case 7:
                return Kinds.poses(now.kind[couple], now.figure[couple]);
            default:
                return refused(OTHER);
        }
    }

    public int order(int i) {
        if (i < 0) {
            return refused(BELOW);
        }
        return i < now.waiting ? now.order[i] : NONE;
    }

    public int free(int room) {
        if (room < 0 || room >= now.rooms) {
            return refused(OTHER);
        }
        return now.freeFrom[room];
    }

    public int couple(int kind, int figure, int at) {
        if (!Kinds.isOne(kind)) {
            return refused(OTHER);
        }
        if (figure < 0 || at < 0) {
            return refused(BELOW);
        }
        if (figure > 9 || at > LATEST_AT || now.isFull()) {
            return refused(ROOM);
        }
        now.add(kind, figure, at);
        past.forget();
        return now.couples - 1;
    }

    public int rooms(int v) {
        if (v < 1) {
            return refused(BELOW);
        }
        if (v > MOST_ROOMS) {
            return refused(ROOM);
        }
        int were = now.rooms;
        now.openRooms(v);
        past.forget();
        return were;
    }

    public int weds(int n) {
        if (n < 1) {
            return refused(BELOW);
        }
        if (n > Hall.MOST) {
            return refused(ROOM);
        }
        if (n > now.waiting) {
            return refused(STATE);
        }
        past.keep(now);
        int last = now.order[n - 1];
        now.wedSome(n);
        return now.ends[last];
    }

    public int pulls(int couple) {
        if (!now.has(couple)) {
            return refused(NOBODY);
        }
        if (now.isWed(couple)) {
            return refused(STATE);
        }
        past.keep(now);
        int place = now.placeOf(couple);
        now.putFirst(couple);
        return place;
    }

    public int slack(int v) {
        if (v < 0) {
            return refused(BELOW);
        }
        if (v > 9) {
            return refused(ROOM);
        }
        past.keep(now);
        int was = now.slack;
        now.slack = v;
        return was;
    }

    public int rests(int minutes) {
        if (minutes < 1) {
            return refused(BELOW);
        }
        if (minutes > LONGEST_REST) {
            return refused(ROOM);
        }
        past.keep(now);
        int was = now.tired;
        now.restClerk(minutes);
        return was;
    }

    public int back() {
        if (!past.giveBack(now)) {
            return refused(STATE);
        }
        return past.many;
    }

    // ---- II: in mind

    public int when(int couple, int what) {
        if (!now.has(couple)) {
            return refused(NOBODY);
        }
        Hall mind = inMind();
        switch (what) {
            case 0:
                return mind.begins[couple];
            case 1:
                return mind.ends[couple];
            case 2:
                return mind.roomOf[couple];
            case 3:
                return mind.lateOf(couple);
            default:
                return refused(OTHER);
        }
    }

    public int waits(int couple) {
        if (!now.has(couple)) {
            return TOLD_REFUSAL - refused(NOBODY);
        }
        return inMind().waitOf(couple);
    }

    public int all(int what) {
        switch (what) {
            case 0:
                return inMind().allLate();
            case 1:
                return inMind().last();
            default:
                return refused(OTHER);
        }
    }

    public int met(int what) {
        switch (what) {
            case 0:
                return inMind().meetings();
            case 1:
                return inMind().firstMeeting();
            case 2:
                return inMind().strayed();
            default:
                return refused(OTHER);
        }
    }

    public int best(int i) {
        if (i < -1) {
            return refused(BELOW);
        }
        bestOrder.find(now);
        if (i == -1) {
            return bestOrder.late;
        }
        return i < bestOrder.many ? bestOrder.order[i] : NONE;
    }

    public int pull() {
        int least = inMind().allLate();
        int whom = NONE;
        for (int c = 0; c < now.couples; c++) {
            if (!now.isWed(c)) {
                Hall tried = asNow();
                tried.putFirst(c);
                int late = lateBy(tried);
                if (late < least) {
                    least = late;
                    whom = c;
                }
            }
        }
        return whom;
    }

    public int bestSlack(int what) {
        if (what != 0 && what != 1) {
            return refused(OTHER);
        }
        int least = MUCH;
        int by = 0;
        for (int s = 0; s <= 9; s++) {
            Hall tried = asNow();
            tried.slack = s;
            int cost = lateBy(tried) + 5 * tried.meetings();
            if (cost < least) {
                least = cost;
                by = s;
            }
        }
        return what == 0 ? by : least;
    }

    public int rest() {
        int least = inMind().allLate();
        int ahead = NONE;
        for (int place = 0; place <= now.waiting; place++) {
            Hall tried = asNow();
            tried.wedSome(place);
            tried.restClerk(10);
            int late = lateBy(tried);
            if (late < least) {
                least = late;
                ahead = place;
            }
        }
        return ahead;
    }

    public int saved() {
        if (now.couples == 0) {
            return TOLD_REFUSAL - refused(STATE);
        }
        int without = inMind().allLate();
        Hall tried = asNow();
        tried.openRooms(MOST_ROOMS);
        return without - lateBy(tried);
    }

    public int can(int figure, int at, int v) {
        if (figure < 0 || at < 0 || v < 0) {
            return refused(BELOW);
        }
        if (figure > 9 || at > LATEST_AT || v > Hall.LAST_MINUTE) {
            return refused(ROOM);
        }
        if (now.isFull()) {
            return 0;
        }
        int kinds = 0;
        for (int kind = 0; kind < Kinds.MANY; kind++) {
            Hall tried = asNow();
            tried.add(kind, figure, at);
            tried.wedAll();
            if (tried.ends[now.couples] <= v) {
                kinds |= 1 << kind;
            }
        }
        return kinds;
    }

    public int fountain(int couple) {
        if (!now.has(couple)) {
            return refused(NOBODY);
        }
        turns.take(inMind());
        return turns.begins[couple];
    }

    public int fountains(int what) {
        if (what != 0 && what != 1) {
            return refused(OTHER);
        }
        turns.take(inMind());
        return what == 0 ? turns.longest : turns.done;
    }

    public int inside(int minute) {
        if (minute < 0) {
            return refused(BELOW);
        }
        if (minute > Hall.LAST_MINUTE) {
            return refused(ROOM);
        }
        return inMind().guestsAt(minute);
    }

    public int crowded() {
        Hall mind = inMind();
        int most = 0;
        int first = 0;
        for (int minute = 0; minute <= Hall.LAST_MINUTE; minute++) {
            int guests = mind.guestsAt(minute);
            if (guests > most) {
                most = guests;
                first = minute;
            }
        }
        return first;
    }

    public int price(int minute) {
        if (minute < 0) {
            return refused(BELOW);
        }
        if (minute > Hall.LAST_MINUTE) {
            return refused(ROOM);
        }
        int sum = 20;
        for (int c = 0; c < now.couples; c++) {
            if (Math.abs(now.at[c] - minute) < 20) {
                sum += 10;
            }
        }
        return sum;
    }

    public long odds(int n, int t, int v, int part) {
        if (n < 0 || v < 0 || t < 2) {
            return LONG_REFUSAL - refused(BELOW);
        }
        if (n > Hall.MOST || t > 20 || v > Hall.LAST_MINUTE) {
            return LONG_REFUSAL - refused(ROOM);
        }
        if (part != 0 && part != 1) {
            return LONG_REFUSAL - refused(OTHER);
        }
        int some = Math.min(n, now.waiting);
        long above = 0;
        for (int longer = 0; longer < 1 << some; longer++) {
            Hall tried = asNow();
            for (int i = 0; i < some; i++) {
                tried.wedFirst((longer >> i & 1) == 1 ? 5 : 0);
            }
            tried.wedAll();
            if (tried.last() <= v) {
                above += power(t - 1, some - Integer.bitCount(longer));
            }
        }
        return lowest(above, power(t, some), part);
    }

    public int two(int one, int other) {
        if (!now.has(one) || !now.has(other) || one == other) {
            return refused(NOBODY);
        }
        if (now.isWed(one) || now.isWed(other)) {
            return refused(STATE);
        }
        for (int asks = 0; asks <= 1; asks++) {
            for (int others = 0; others <= 1; others++) {
                if (oneIsContent(one, other, asks, others) && otherIsContent(one, other, asks, others)) {
                    return 10 * asks + others;
                }
            }
        }
        return NONE;
    }

    public int whatWas(int couple, int what) {
        if (!now.has(couple)) {
            return refused(NOBODY);
        }
        switch (what) {
            case 0:
                return kindsTold(couple);
            case 1:
                return figuresTold(couple);
            case 2:
                return minutesTold(couple, false);
            case 3:
                return minutesTold(couple, true);
            default:
                return refused(OTHER);
        }
    }

    // ---- III

    public int longest(int what) {
        switch (what) {
            case 0:
                return now.longestOne();
            case 1:
                return now.dearest();
            case 2:
                return now.bunched();
            default:
                return refused(OTHER);
        }
    }

    // ---- IV

    public long mean(int part) {
        if (part != 0 && part != 1) {
            return LONG_REFUSAL - refused(OTHER);
        }
        return lowest(inMind().allLate(), Math.max(now.couples, 1), part);
    }

    public int early() {
        Hall mind = inMind();
        int who = 0;
        for (int c = 0; c < mind.couples; c++) {
            if (mind.begins[c] < mind.at[c]) {
                who |= 1 << c;
            }
        }
        return who;
    }

    public int worst() {
        Hall mind = inMind();
        int most = 0;
        int who = NONE;
        for (int c = 0; c < mind.couples; c++) {
            if (mind.lateOf(c) > most) {
                most = mind.lateOf(c);
                who = c;
            }
        }
        return who;
    }

    public int idle() {
        Hall mind = inMind();
        int last = mind.last();
        int minutes = 0;
        for (int minute = 0; minute < last; minute++) {
            if (mind.guestsAt(minute) == 0) {
                minutes++;
            }
        }
        return minutes;
    }

    public int span() {
        Hall mind = inMind();
        int most = 0;
        for (int c = 0; c < mind.couples; c++) {
            most = Math.max(most, mind.waitOf(c));
        }
        return most;
    }

    public int swap() {
        int least = inMind().allLate();
        int pair = NONE;
        for (int c = 0; c < now.couples; c++) {
            for (int d = c + 1; d < now.couples; d++) {
                if (!now.isWed(c) && !now.isWed(d)) {
                    Hall tried = asNow();
                    tried.changePlaces(c, d);
                    int late = lateBy(tried);
                    if (late < least) {
                        least = late;
                        pair = 10 * c + d;
                    }
                }
            }
        }
        return pair;
    }

    public int turned() {
        Hall tried = asNow();
        for (int i = 0; i < now.waiting; i++) {
            tried.order[i] = now.order[now.waiting - 1 - i];
        }
        return lateBy(tried);
    }

    public int shift() {
        for (int later = 0; later <= 60; later++) {
            Hall tried = asNow();
            for (int c = 0; c < now.couples; c++) {
                if (!now.isWed(c)) {
                    tried.at[c] += later;
                }
            }
            tried.wedAll();
            // Those who are WED already may be LATE as they are.
            if (tried.allLate() == now.lateOfWed()) {
                return later;
            }
        }
        return NONE;
    }

    // ---- The row, lots, the image, counts

    public int row(int v) {
        if (v < 0) {
            return refused(BELOW);
        }
        if (v > Hall.LAST_MINUTE || toldMany >= MOST_TOLD) {
            return refused(ROOM);
        }
        told[toldMany] = v;
        toldMany++;
        return toldMany;
    }

    public int judge() {
        Hall mind = inMind();
        int first = NONE;
        for (int c = 0; c < toldMany && first == NONE; c++) {
            if (!mind.has(c) || mind.begins[c] != told[c]) {
                first = c;
            }
        }
        toldMany = 0;
        return first;
    }

    public int clear() {
        int had = toldMany;
        toldMany = 0;
        return had;
    }

    public int lots(int n, int z, int what) {
        if (n < 1) {
            return refused(BELOW);
        }
        if (n > 20) {
            return refused(ROOM);
        }
        if (what != 0 && what != 1) {
            return refused(OTHER);
        }
        int sum = 0;
        int seed = z;
        for (int saturday = 0; saturday < n; saturday++) {
            Hall tried = asNow();
            for (int c = 0; c < now.couples; c++) {
                if (!now.isWed(c)) {
                    seed = seed * 1103515245 + 12345;
                    tried.figure[c] = (seed & 0x7fffffff) / 65536 % 10;
                }
            }
            tried.wedAll();
            sum += what == 0 ? tried.allLate() : tried.meetings();
        }
        return sum;
    }

    public int image() {
        imaged.become(now);
        hasImage = true;
        return now.waiting;
    }

    public int restore() {
        if (!hasImage) {
            return refused(STATE);
        }
        now.become(imaged);
        past.forget();
        return now.waiting;
    }

    public int count(int what) {
        switch (what) {
            case 0:
                return now.couples;
            case 1:
                return now.waiting;
            case 2:
                return now.wed;
            case 3:
                return now.rooms;
            case 4:
                return now.tired;
            case 5:
                return now.slack;
            case 6:
                return letters.many;
            case 7:
                return toldMany;
            case 8:
                return past.many;
            default:
                return what >= 11 && what <= 16 ? refusals[what - 10] : NONE;
        }
    }

    // ---- Helpers

    private int refused(int number) {
        int which = -number;
        if (which >= 0 && which < refusals.length) {
            refusals[which]++;
        }
        return number;
    }

    /** The one hall in which things are tried; a call of this begins anew with it. */
    private Hall asNow() {
        trial.become(now);
        return trial;
    }

    private Hall inMind() {
        Hall mind = asNow();
        mind.wedAll();
        return mind;
    }

    private static int lateBy(Hall tried) {
        tried.wedAll();
        return tried.allLate();
    }

    private Hall askedBy(int one, int other, int asks, int others) {
        Hall tried = asNow();
        if (others == 1) {
            tried.putFirst(other);
        }
        // Put first after the other, so that where both ask the other is behind it.
        if (asks == 1) {
            tried.putFirst(one);
        }
        tried.wedAll();
        return tried;
    }

    private boolean oneIsContent(int one, int other, int asks, int others) {
        int so = askedBy(one, other, asks, others).lateOf(one) + ASKING * asks;
        int otherwise = askedBy(one, other, 1 - asks, others).lateOf(one) + ASKING * (1 - asks);
        return so <= otherwise;
    }

    private boolean otherIsContent(int one, int other, int asks, int others) {
        int so = askedBy(one, other, asks, others).lateOf(other) + ASKING * others;
        int otherwise = askedBy(one, other, asks, 1 - others).lateOf(other) + ASKING * (1 - others);
        return so <= otherwise;
    }

    private int kindsTold(int couple) {
        int kinds = 0;
        for (int kind = 0; kind < Kinds.MANY; kind++) {
            Hall tried = asNow();
            tried.kind[couple] = kind;
            if (endsAsTold(tried)) {
                kinds |= 1 << kind;
            }
        }
        return kinds;
    }

    private int figuresTold(int couple) {
        int figures = 0;
        for (int figure = 0; figure <= 9; figure++) {
            Hall tried = asNow();
            tried.figure[couple] = figure;
            if (endsAsTold(tried)) {
                figures |= 1 << figure;
            }
        }
        return figures;
    }

    private int minutesTold(int couple, boolean least) {
        int many = 0;
        for (int at = 0; at <= LATEST_AT; at++) {
            Hall tried = asNow();
            tried.at[couple] = at;
            if (endsAsTold(tried)) {
                if (least) {
                    return at;
                }
                many++;
            }
        }
        return least ? NONE : many;
    }

    private boolean endsAsTold(Hall tried) {
        tried.wedAll();
        for (int c = 0; c < toldMany; c++) {
            if (!tried.has(c) || tried.ends[c] != told[c]) {
                return false;
            }
        }
        return true;
    }

    private static long power(int base, int exponent) {
        long product = 1;
        for (int i = 0; i < exponent; i++) {
            product *= base;
        }
        return product;
    }

    /** The part above (0) or below (1) the line of a fraction in lowest terms. */
    private static long lowest(long above, long below, int part) {
        long a = above;
        long b = below;
        // No numbers of 64 bits take Euclid a hundred steps.
        for (int i = 0; i < 100 && b > 0; i++) {
            long left = a % b;
            a = b;
            b = left;
        }
        long divisor = Math.max(a, 1L);
        return (part == 0 ? above : below) / divisor;
    }

    // ---- Classes

    /** What a FIGURE and AT mean for each of the KINDS. */
    private static final class Kinds {
        static final int MANY = 6;
        static final int SHORT = 1;
        static final int LONG = 2;
        static final int LATE = 3;
        static final int PULLED = 4;
        static final int BLOTTED = 5;

        static boolean isOne(int kind) {
            return kind >= 0 && kind < MANY;
        }

        static int lasts(int kind, int figure) {
            int wedding = 15 + figure;
            int shortOne = 10 + figure / 2;
            int longOne = wedding + 8;
            switch (kind) {
                case SHORT:
                    return shortOne;
                case LONG:
                    return longOne;
                case PULLED:
                    return shortOne - 2;
                case BLOTTED:
                    return longOne + 5;
                default:
                    return wedding;
            }
        }

        static int ready(int kind, int figure, int at) {
            switch (kind) {
                case SHORT:
                    return at > 5 ? at - 5 : 0;
                case LONG:
                case BLOTTED:
                    return at + figure / 2;
                case LATE:
                    return at + figure + 7;
                case PULLED:
                    return at > 20 ? at - 20 : 0;
                default:
                    return at;
            }
        }

        static int guests(int kind, int figure) {
            int wedding = figure + 4;
            switch (kind) {
                case SHORT:
                case PULLED:
                    return wedding / 2;
                case LONG:
                    return wedding * 2;
                case BLOTTED:
                    return wedding * 2 - 3;
                default:
                    return wedding;
            }
        }

        static int poses(int kind, int figure) {
            return kind == LONG || kind == BLOTTED ? 3 + figure : 3;
        }
    }

    /** All that there is of part I but letters: couples, their order, rooms and the clerk. */
    private static final class Hall {
        static final int MOST = 7;
        static final int LAST_MINUTE = 999;
        static final int TIRED_MOST = 99;
        static final int TIRED_SLOW = 30;

        int couples = 0;
        final int[] kind = new int[MOST];
        final int[] figure = new int[MOST];
        final int[] at = new int[MOST];
        /** Bits. */
        int wed = 0;
        /** These three mean something only of those who are WED. */
        final int[] begins = new int[MOST];
        final int[] ends = new int[MOST];
        final int[] roomOf = new int[MOST];
        int waiting = 0;
        final int[] order = new int[MOST];
        int rooms = 1;
        final int[] freeFrom = new int[MOST_ROOMS];
        int tired = 0;
        int slack = 0;

        void become(Hall other) {
            couples = other.couples;
            System.arraycopy(other.kind, 0, kind, 0, MOST);
            System.arraycopy(other.figure, 0, figure, 0, MOST);
            System.arraycopy(other.at, 0, at, 0, MOST);
            wed = other.wed;
            System.arraycopy(other.begins, 0, begins, 0, MOST);
            System.arraycopy(other.ends, 0, ends, 0, MOST);
            System.arraycopy(other.roomOf, 0, roomOf, 0, MOST);
            waiting = other.waiting;
            System.arraycopy(other.order, 0, order, 0, MOST);
            rooms = other.rooms;
            System.arraycopy(other.freeFrom, 0, freeFrom, 0, MOST_ROOMS);
            tired = other.tired;
            slack = other.slack;
        }

        boolean has(int c) {
            return c >= 0 && c < couples;
        }

        boolean isFull() {
            return couples >= MOST;
        }

        boolean isWed(int c) {
            return (wed >> c & 1) == 1;
        }

        int lastsOf(int c) {
            return Kinds.lasts(kind[c], figure[c]);
        }

        int readyOf(int c) {
            return Kinds.ready(kind[c], figure[c], at[c]);
        }

        int guestsOf(int c) {
            return Kinds.guests(kind[c], figure[c]);
        }

        void add(int aKind, int aFigure, int minute) {
            if (isFull() || waiting >= MOST) {
                return;
            }
            kind[couples] = aKind;
            figure[couples] = aFigure;
            at[couples] = minute;
            order[waiting] = couples;
            waiting++;
            couples++;
        }

        void openRooms(int many) {
            if (many == MOST_ROOMS && rooms < MOST_ROOMS) {
                freeFrom[1] = freeFrom[0];
            }
            rooms = many;
        }

        /** Its place in ORDER; as many as are in it where it is not there. */
        int placeOf(int c) {
            int place = 0;
            while (place < waiting && order[place] != c) {
                place++;
            }
            return place;
        }

        void putFirst(int c) {
            int place = placeOf(c);
            if (place >= waiting) {
                return;
            }
            for (int i = place; i > 0; i--) {
                order[i] = order[i - 1];
            }
            order[0] = c;
        }

        void changePlaces(int c, int d) {
            int one = placeOf(c);
            int other = placeOf(d);
            if (one < waiting && other < waiting) {
                order[one] = d;
                order[other] = c;
            }
        }

        void restClerk(int minutes) {
            tired = 0;
            for (int room = 0; room < rooms; room++) {
                freeFrom[room] = Math.min(freeFrom[room] + minutes, LAST_MINUTE);
            }
        }

        void wedAll() {
            for (int many = waiting; many > 0; many--) {
                wedFirst(0);
            }
        }

        void wedSome(int many) {
            int some = Math.min(many, waiting);
            for (int i = 0; i < some; i++) {
                wedFirst(0);
            }
        }

        void wedFirst(int longer) {
            if (waiting < 1) {
                return;
            }
            int c = order[0];
            waiting--;
            for (int i = 0; i < waiting; i++) {
                order[i] = order[i + 1];
            }
            wed |= 1 << c;
            hold(c, longer);
        }

        /** The wedding itself, whatever ORDER says. */
        void hold(int c, int longer) {
            int room = rooms > 1 && freeFrom[1] < freeFrom[0] ? 1 : 0;
            int begin = Math.max(freeFrom[room], Kinds.ready(kind[c], figure[c], at[c]));
            if (kind[c] != Kinds.PULLED) {
                begin = Math.max(begin, at[c]);
            }
            int took = Kinds.lasts(kind[c], figure[c]) + longer + (tired >= TIRED_SLOW ? 2 : 0);
            begins[c] = begin;
            ends[c] = Math.min(begin + took, LAST_MINUTE);
            roomOf[c] = room;
            freeFrom[room] = Math.min(ends[c] + slack, LAST_MINUTE);
            tired = Math.min(tired + took / 4, TIRED_MOST);
        }

        int lateOf(int c) {
            return Math.max(begins[c] - at[c], 0);
        }

        int waitOf(int c) {
            return begins[c] - readyOf(c);
        }

        int allLate() {
            int sum = 0;
            for (int c = 0; c < couples; c++) {
                sum += lateOf(c);
            }
            return sum;
        }

        int lateOfWed() {
            int sum = 0;
            for (int c = 0; c < couples; c++) {
                if (isWed(c)) {
                    sum += lateOf(c);
                }
            }
            return sum;
        }

        int last() {
            int latest = 0;
            for (int c = 0; c < couples; c++) {
                latest = Math.max(latest, ends[c]);
            }
            return latest;
        }

        boolean meet(int c, int d) {
            return Math.abs(ends[c] - begins[d]) <= 2 || Math.abs(ends[d] - begins[c]) <= 2;
        }

        int meetings() {
            int twos = 0;
            for (int c = 0; c < couples; c++) {
                for (int d = c + 1; d < couples; d++) {
                    if (meet(c, d)) {
                        twos++;
                    }
                }
            }
            return twos;
        }

        int firstMeeting() {
            for (int c = 0; c < couples; c++) {
                for (int d = c + 1; d < couples; d++) {
                    if (meet(c, d)) {
                        return 10 * c + d;
                    }
                }
            }
            return NONE;
        }

        int strayed() {
            int most = 0;
            int who = NONE;
            for (int c = 0; c < couples; c++) {
                int others = 0;
                for (int d = 0; d < couples; d++) {
                    if (d != c && meet(c, d)) {
                        others++;
                    }
                }
                if (others > most) {
                    most = others;
                    who = c;
                }
            }
            return who;
        }

        int guestsAt(int minute) {
            int sum = 0;
            for (int c = 0; c < couples; c++) {
                if (begins[c] <= minute && minute < ends[c]) {
                    sum += guestsOf(c);
                }
            }
            return sum;
        }

        int longestOne() {
            int most = 0;
            int who = NONE;
            for (int c = 0; c < couples; c++) {
                if (lastsOf(c) > most) {
                    most = lastsOf(c);
                    who = c;
                }
            }
            return who;
        }

        int dearest() {
            int most = 0;
            int who = NONE;
            for (int c = 0; c < couples; c++) {
                if (!isWed(c) && guestsOf(c) > most) {
                    most = guestsOf(c);
                    who = c;
                }
            }
            return who;
        }

        int bunched() {
            int twos = 0;
            for (int c = 0; c < couples; c++) {
                for (int d = c + 1; d < couples; d++) {
                    if (Math.abs(at[c] - at[d]) < 15) {
                        twos++;
                    }
                }
            }
            return twos;
        }
    }

    /** What can be TAKEN BACK: the hall as it was ahead of each change, the latest last. */
    private static final class Past {
        private static final int MOST_KEPT = 8;
        private final Hall[] kept = new Hall[MOST_KEPT];
        private int oldest = 0;
        int many = 0;

        Past() {
            for (int i = 0; i < MOST_KEPT; i++) {
                kept[i] = new Hall();
            }
        }

        void keep(Hall hall) {
            if (many == MOST_KEPT) {
                oldest = (oldest + 1) % MOST_KEPT;
                many--;
            }
            kept[(oldest + many) % MOST_KEPT].become(hall);
            many++;
        }

        boolean giveBack(Hall hall) {
            if (many == 0) {
                return false;
            }
            many--;
            hall.become(kept[(oldest + many) % MOST_KEPT]);
            return true;
        }

        void forget() {
            many = 0;
        }
    }

    /** A HALL told in letters. */
    private static final class Letters {
        private static final int MOST_LETTERS = 96;
        private final int[] letter = new int[MOST_LETTERS];
        int many = 0;

        boolean take(int sign) {
            if (many >= MOST_LETTERS) {
                return false;
            }
            letter[many] = sign;
            many++;
            return true;
        }

        /** How many digits are behind the first letter of a STATEMENT; 0 where it begins none. */
        private static int digitsBehind(int first) {
            switch (first) {
                case 'c':
                    return 5;
                case 's':
                case 'r':
                case 'f':
                case 'w':
                    return 1;
                case 'b':
                    return 2;
                default:
                    return 0;
            }
        }

        private boolean isDigit(int place) {
            return place < many && letter[place] >= '0' && letter[place] <= '9';
        }

        /** The place at which no HALL can go on; -1 where it is one by its form. */
        int faultyPlace() {
            if (many == 0) {
                return 0;
            }
            int place = 0;
            while (place < many) {
                int digits = digitsBehind(letter[place]);
                if (digits == 0) {
                    return place;
                }
                place++;
                for (int i = 0; i < digits; i++) {
                    if (!isDigit(place)) {
                        return place;
                    }
                    place++;
                }
                if (place >= many || letter[place] != ';') {
                    return place;
                }
                place++;
            }
            return -1;
        }

        /** Tells all to the hall: how many STATEMENTS, or the FAULT of one that is not as it must be. */
        int tellTo(Hall hall) {
            int statements = 0;
            int place = 0;
            while (place < many) {
                if (!obeyed(hall, place)) {
                    return -2000 - place;
                }
                statements++;
                place += digitsBehind(letter[place]) + 2;
            }
            return statements;
        }

        private int number(int place, int digits) {
            int value = 0;
            for (int i = place; i < place + digits && isDigit(i); i++) {
                value = value * 10 + letter[i] - '0';
            }
            return value;
        }

        private boolean obeyed(Hall hall, int place) {
            switch (letter[place]) {
                case 'c':
                    return coupleComes(hall, place);
                case 's':
                    hall.slack = number(place + 1, 1);
                    return true;
                case 'r':
                    return roomsOpened(hall, number(place + 1, 1));
                case 'f':
                    return putFirst(hall, number(place + 1, 1));
                case 'w':
                    return someWed(hall, number(place + 1, 1));
                default:
                    return clerkRests(hall, number(place + 1, 2));
            }
        }

        private boolean coupleComes(Hall hall, int place) {
            int kind = number(place + 1, 1);
            int minute = number(place + 3, 3);
            if (!Kinds.isOne(kind) || minute > LATEST_AT || hall.isFull()) {
                return false;
            }
            hall.add(kind, number(place + 2, 1), minute);
            return true;
        }

        private static boolean roomsOpened(Hall hall, int many) {
            if (many < 1 || many > MOST_ROOMS) {
                return false;
            }
            hall.openRooms(many);
            return true;
        }

        private static boolean putFirst(Hall hall, int c) {
            if (!hall.has(c) || hall.isWed(c)) {
                return false;
            }
            hall.putFirst(c);
            return true;
        }

        private static boolean someWed(Hall hall, int many) {
            if (many < 1 || many > hall.waiting) {
                return false;
            }
            hall.wedSome(many);
            return true;
        }

        private static boolean clerkRests(Hall hall, int minutes) {
            if (minutes < 1 || minutes > LONGEST_REST) {
                return false;
            }
            hall.restClerk(minutes);
            return true;
        }
    }

    /** The order of those not WED by which all are least late together. */
    private static final class BestOrder {
        private final Hall hall = new Hall();
        private final int[] path = new int[Hall.MOST];
        final int[] order = new int[Hall.MOST];
        int many = 0;
        int late = 0;

        void find(Hall from) {
            hall.become(from);
            many = from.waiting;
            late = MUCH;
            seek(this, 0, from.wed, from.lateOfWed());
        }

        /**
         * Goes through the orders by numbers, so that the first of several is kept. Nobody is
         * late by less than 0: what is no better now will not be better further on.
         */
        private static void seek(BestOrder s, int depth, int gone, int sum) {
            if (sum >= s.late || depth > Hall.MOST) {
                return;
            }
            if (depth >= s.many) {
                s.late = sum;
                System.arraycopy(s.path, 0, s.order, 0, s.many);
                return;
            }
            Hall hall = s.hall;
            int first = hall.freeFrom[0];
            int second = hall.freeFrom[1];
            int tired = hall.tired;
            for (int c = 0; c < hall.couples; c++) {
                if ((gone >> c & 1) == 0) {
                    s.path[depth] = c;
                    hall.hold(c, 0);
                    seek(s, depth + 1, gone | 1 << c, sum + hall.lateOf(c));
                    hall.freeFrom[0] = first;
                    hall.freeFrom[1] = second;
                    hall.tired = tired;
                }
            }
        }
    }

    /** Turns at the fountain. */
    private static final class Fountain {
        final int[] begins = new int[Hall.MOST];
        int longest = NONE;
        int done = 0;

        void take(Hall mind) {
            longest = NONE;
            done = 0;
            int posed = 0;
            int most = -1;
            for (int turn = 0; turn < mind.couples; turn++) {
                int c = next(mind, posed);
                if (c < 0) {
                    return;
                }
                posed |= 1 << c;
                int from = mind.ends[c] + 2;
                begins[c] = Math.max(from, done);
                done = begins[c] + Kinds.poses(mind.kind[c], mind.figure[c]);
                int waited = begins[c] - from;
                if (waited > most || waited == most && c < longest) {
                    most = waited;
                    longest = c;
                }
            }
        }

        private static int next(Hall mind, int posed) {
            int who = -1;
            for (int c = 0; c < mind.couples; c++) {
                if ((posed >> c & 1) == 0 && (who < 0 || mind.ends[c] < mind.ends[who])) {
                    who = c;
                }
            }
            return who;
        }
    }
}
