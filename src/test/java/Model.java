import java.math.BigInteger;
import java.util.ArrayDeque;
import java.util.ArrayList;
import java.util.Arrays;
import java.util.Comparator;
import java.util.Deque;
import java.util.List;
import java.util.function.UnaryOperator;
import java.util.regex.Matcher;
import java.util.regex.Pattern;

/**
 * The document written a second time, in another way than the program: states are never changed but made anew,
 * times are found by looking at one minute behind the other, orders by trying them all.
 */
final class Model {
    record Couple(int kind, int figure, int at) {
        int base() { return new int[] {0, 1, 2, 0, 1, 2}[kind]; }
        int lasts() { return new int[] {15 + figure, 10 + figure / 2, 23 + figure, 15 + figure, 8 + figure / 2, 28 + figure}[kind]; }
        int ready() { return Math.max(0, new int[] {at, at - 5, at + figure / 2, at + figure + 7, at - 20, at + figure / 2}[kind]); }
        int guests() { return new int[] {figure + 4, (figure + 4) / 2, 2 * figure + 8, figure + 4, (figure + 4) / 2, 2 * figure + 5}[kind]; }
        int poses() { return base() == 2 ? figure + 3 : 3; }
    }

    record Held(int begins, int ends, int room) { }

    record State(List<Couple> couples, List<Held> held, List<Integer> order, List<Integer> free, int tired, int slack) {
        boolean wed(int c) { return held.get(c) != null; }

        State withCouple(Couple c) {
            return new State(more(couples, c), more(held, null), more(order, couples.size()), free, tired, slack);
        }
        State withOrder(List<Integer> o) { return new State(couples, held, List.copyOf(o), free, tired, slack); }
        State withSlack(int s) { return new State(couples, held, order, free, tired, s); }
        State withChanged(int c, UnaryOperator<Couple> how) {
            List<Couple> l = new ArrayList<>(couples);
            l.set(c, how.apply(l.get(c)));
            return new State(l, held, order, free, tired, slack);
        }
        State withRooms(int v) {
            List<Integer> f = v == free.size() ? free : v == 1 ? List.of(free.get(0)) : List.of(free.get(0), free.get(0));
            return new State(couples, held, order, f, tired, slack);
        }
        State first(int c) {
            List<Integer> o = new ArrayList<>(order);
            o.remove((Integer) c);
            o.add(0, c);
            return withOrder(o);
        }
        State rested(int m) {
            return new State(couples, held, order, free.stream().map(f -> Math.min(999, f + m)).toList(), 0, slack);
        }
        State wedOne(int longer) {
            int c = order.get(0);
            Couple who = couples.get(c);
            int room = free.indexOf(free.stream().min(Comparator.naturalOrder()).get());
            int minute = free.get(room);
            while (minute < who.ready() || who.kind() != 4 && minute < who.at()) minute++;
            int took = who.lasts() + longer;
            if (tired >= 30) took += 2;
            Held h = new Held(minute, Math.min(999, minute + took), room);
            List<Held> hs = new ArrayList<>(held);
            hs.set(c, h);
            List<Integer> f = new ArrayList<>(free);
            f.set(room, Math.min(999, h.ends() + slack));
            return new State(couples, hs, order.subList(1, order.size()), f, Math.min(99, tired + took / 4), slack);
        }
        State wedSome(int n) {
            State s = this;
            for (int i = 0; i < n; i++) s = s.wedOne(0);
            return s;
        }
        State mind() { return wedSome(order.size()); }
        int late(int c) { return Math.max(0, held.get(c).begins() - couples.get(c).at()); }
        int allLate() {
            State m = mind();
            int sum = 0;
            for (int c = 0; c < couples.size(); c++) sum += m.late(c);
            return sum;
        }
        int last() { return mind().held.stream().mapToInt(Held::ends).max().orElse(0); }
        List<int[]> meetings() {
            State m = mind();
            List<int[]> l = new ArrayList<>();
            for (int c = 0; c < couples.size(); c++) {
                for (int d = c + 1; d < couples.size(); d++) {
                    Held a = m.held.get(c);
                    Held b = m.held.get(d);
                    int one = a.ends() - b.begins();
                    int two = b.ends() - a.begins();
                    if (one >= -2 && one <= 2 || two >= -2 && two <= 2) l.add(new int[] {c, d});
                }
            }
            return l;
        }
    }

    static <T> List<T> more(List<T> l, T t) {
        List<T> r = new ArrayList<>(l);
        r.add(t);
        return r;
    }

    private State now = new State(List.of(), List.of(), List.of(), List.of(0), 0, 0);
    private State image = null;
    private final Deque<State> past = new ArrayDeque<>();
    private final StringBuilder letters = new StringBuilder();
    private final List<Integer> row = new ArrayList<>();
    private final int[] refusals = new int[7];

    private int no(int number) {
        refusals[-number]++;
        return number;
    }
    private boolean nobody(int c) { return c < 0 || c >= now.couples().size(); }
    private void change(State s) {
        past.addLast(now);
        if (past.size() > 8) past.removeFirst();
        now = s;
    }
    private void changeForGood(State s) {
        past.clear();
        now = s;
    }

    int feed(int letter) {
        if (letter < 0) return no(-4);
        if (letter > 255 || letters.length() == 96) return no(-6);
        letters.append((char) letter);
        return letters.length();
    }

    private static final Pattern HALL = Pattern.compile("(?:c[0-9]{5};|[srfw][0-9];|b[0-9]{2};)+");
    private static final Pattern STATEMENT = Pattern.compile("[csrfwb][0-9]+;");

    int hall() {
        String text = letters.toString();
        letters.setLength(0);
        for (int i = 0; i < text.length(); i++) {
            Matcher m = HALL.matcher(text.substring(0, i + 1));
            if (!m.matches() && !m.hitEnd()) return -1000 - i;
        }
        if (!HALL.matcher(text).matches()) return -1000 - text.length();
        State s = now;
        Matcher m = STATEMENT.matcher(text);
        int many = 0;
        while (m.find()) {
            s = told(s, m.group());
            if (s == null) return -2000 - m.start();
            many++;
        }
        changeForGood(s);
        return many;
    }

    private static State told(State s, String t) {
        int n = Integer.parseInt(t.substring(1, t.length() - 1));
        return switch (t.charAt(0)) {
            case 'c' -> n / 10000 > 5 || n % 1000 > 240 || s.couples().size() == 7 ? null
                : s.withCouple(new Couple(n / 10000, n / 1000 % 10, n % 1000));
            case 's' -> s.withSlack(n);
            case 'r' -> n < 1 || n > 2 ? null : s.withRooms(n);
            case 'f' -> s.order().contains(n) ? s.first(n) : null;
            case 'w' -> n < 1 || n > s.order().size() ? null : s.wedSome(n);
            default -> n < 1 || n > 30 ? null : s.rested(n);
        };
    }

    int coupleOf(int couple, int what) {
        if (nobody(couple)) return no(-1);
        if (what < 0 || what > 7) return no(-2);
        Couple c = now.couples().get(couple);
        return new int[] {c.kind(), c.figure(), c.at(), now.wed(couple) ? 1 : 0, c.lasts(), c.ready(), c.guests(), c.poses()}[what];
    }
    int order(int i) { return i < 0 ? no(-4) : i < now.order().size() ? now.order().get(i) : -9; }
    int free(int room) { return room < 0 || room >= now.free().size() ? no(-2) : now.free().get(room); }
    int couple(int kind, int figure, int at) {
        if (kind < 0 || kind > 5) return no(-2);
        if (figure < 0 || at < 0) return no(-4);
        if (figure > 9 || at > 240 || now.couples().size() == 7) return no(-6);
        changeForGood(now.withCouple(new Couple(kind, figure, at)));
        return now.couples().size() - 1;
    }
    int rooms(int v) {
        if (v < 1) return no(-4);
        if (v > 2) return no(-6);
        int were = now.free().size();
        changeForGood(now.withRooms(v));
        return were;
    }
    int weds(int n) {
        if (n < 1) return no(-4);
        if (n > 7) return no(-6);
        if (n > now.order().size()) return no(-3);
        int last = now.order().get(n - 1);
        change(now.wedSome(n));
        return now.held().get(last).ends();
    }
    int pulls(int couple) {
        if (nobody(couple)) return no(-1);
        if (now.wed(couple)) return no(-3);
        int place = now.order().indexOf(couple);
        change(now.first(couple));
        return place;
    }
    int slack(int v) {
        if (v < 0) return no(-4);
        if (v > 9) return no(-6);
        int was = now.slack();
        change(now.withSlack(v));
        return was;
    }
    int rests(int minutes) {
        if (minutes < 1) return no(-4);
        if (minutes > 30) return no(-6);
        int was = now.tired();
        change(now.rested(minutes));
        return was;
    }
    int back() {
        if (past.isEmpty()) return no(-3);
        now = past.removeLast();
        return past.size();
    }

    int when(int couple, int what) {
        if (nobody(couple)) return no(-1);
        if (what < 0 || what > 3) return no(-2);
        State m = now.mind();
        Held h = m.held().get(couple);
        return what == 0 ? h.begins() : what == 1 ? h.ends() : what == 2 ? h.room() : m.late(couple);
    }
    private int waited(int c) { return now.mind().held().get(c).begins() - now.couples().get(c).ready(); }
    int waits(int couple) { return nobody(couple) ? 1000000000 - no(-1) : waited(couple); }
    int all(int what) { return what == 0 ? now.allLate() : what == 1 ? now.last() : no(-2); }
    int met(int what) {
        List<int[]> l = now.meetings();
        if (what == 0) return l.size();
        if (what == 1) return l.isEmpty() ? -9 : l.get(0)[0] * 10 + l.get(0)[1];
        if (what != 2) return no(-2);
        int[] of = new int[7];
        for (int[] two : l) {
            of[two[0]]++;
            of[two[1]]++;
        }
        return l.isEmpty() ? -9 : firstOf(of, Arrays.stream(of).max().getAsInt());
    }
    private static int firstOf(int[] of, int value) {
        for (int i = 0; i < of.length; i++) if (of[i] == value) return i;
        return -9;
    }

    private List<Integer> bestOrder;
    private int bestLate;
    int best(int i) {
        if (i < -1) return no(-4);
        bestOrder = null;
        tryOrders(List.of(), now.order().stream().sorted().toList());
        return i == -1 ? bestLate : i < bestOrder.size() ? bestOrder.get(i) : -9;
    }
    private void tryOrders(List<Integer> chosen, List<Integer> left) {
        if (left.isEmpty()) {
            int late = now.withOrder(chosen).allLate();
            if (bestOrder == null || late < bestLate) {
                bestOrder = chosen;
                bestLate = late;
            }
        }
        for (Integer c : left) {
            List<Integer> rest = new ArrayList<>(left);
            rest.remove(c);
            tryOrders(more(chosen, c), rest);
        }
    }

    /** The first of the candidates by which the state is least late, less than now; -9. */
    private int leastLate(List<Integer> names, List<State> states) {
        int least = now.allLate();
        int who = -9;
        for (int i = 0; i < names.size(); i++) {
            int late = states.get(i).allLate();
            if (late < least) {
                least = late;
                who = names.get(i);
            }
        }
        return who;
    }
    int pull() {
        List<Integer> names = now.order().stream().sorted().toList();
        return leastLate(names, names.stream().map(c -> now.first(c)).toList());
    }
    int bestSlack(int what) {
        if (what < 0 || what > 1) return no(-2);
        int[] cost = new int[10];
        for (int s = 0; s < 10; s++) {
            State t = now.withSlack(s);
            cost[s] = t.allLate() + 5 * t.meetings().size();
        }
        int least = Arrays.stream(cost).min().getAsInt();
        return what == 1 ? least : firstOf(cost, least);
    }
    int rest() {
        List<Integer> names = new ArrayList<>();
        List<State> states = new ArrayList<>();
        for (int p = 0; p <= now.order().size(); p++) {
            names.add(p);
            states.add(now.wedSome(p).rested(10));
        }
        return leastLate(names, states);
    }
    int saved() {
        if (now.couples().isEmpty()) return 1000000000 - no(-3);
        return now.free().size() == 2 ? 0 : now.allLate() - now.withRooms(2).allLate();
    }
    int can(int figure, int at, int v) {
        if (figure < 0 || at < 0 || v < 0) return no(-4);
        if (figure > 9 || at > 240 || v > 999) return no(-6);
        int kinds = 0;
        for (int k = 5; k >= 0 && now.couples().size() < 7; k--) {
            State m = now.withCouple(new Couple(k, figure, at)).mind();
            kinds = kinds * 2 + (m.held().get(m.held().size() - 1).ends() <= v ? 1 : 0);
        }
        return kinds;
    }

    /** For each couple when it begins at the fountain and how long it waits there; the last is when all is done. */
    private int[][] poses() {
        State m = now.mind();
        int n = m.couples().size();
        int[][] of = new int[n + 1][2];
        List<Integer> turns = new ArrayList<>();
        for (int c = 0; c < n; c++) turns.add(c);
        turns.sort(Comparator.comparingInt((Integer c) -> m.held().get(c).ends()).thenComparingInt(c -> c));
        int minute = 0;
        for (int c : turns) {
            int from = m.held().get(c).ends() + 2;
            while (minute < from) minute++;
            of[c][0] = minute;
            of[c][1] = minute - from;
            minute += m.couples().get(c).poses();
        }
        of[n][0] = minute;
        return of;
    }
    int fountain(int couple) { return nobody(couple) ? no(-1) : poses()[couple][0]; }
    int fountains(int what) {
        if (what < 0 || what > 1) return no(-2);
        int[][] of = poses();
        int n = now.couples().size();
        if (what == 1) return of[n][0];
        int[] waited = new int[n];
        for (int c = 0; c < n; c++) waited[c] = of[c][1];
        return n == 0 ? -9 : firstOf(waited, Arrays.stream(waited).max().getAsInt());
    }
    private int[] insides() {
        State m = now.mind();
        int[] guests = new int[1000];
        for (int c = 0; c < m.couples().size(); c++) {
            for (int i = m.held().get(c).begins(); i < m.held().get(c).ends(); i++) guests[i] += m.couples().get(c).guests();
        }
        return guests;
    }
    int inside(int minute) { return minute < 0 ? no(-4) : minute > 999 ? no(-6) : insides()[minute]; }
    int crowded() { return firstOf(insides(), Arrays.stream(insides()).max().getAsInt()); }
    int price(int minute) {
        if (minute < 0) return no(-4);
        if (minute > 999) return no(-6);
        return 20 + 10 * (int) now.couples().stream().filter(c -> c.at() > minute - 20 && c.at() < minute + 20).count();
    }
    private static long part(BigInteger above, BigInteger below, int part) {
        BigInteger g = above.gcd(below);
        return (part == 0 ? above : below).divide(g).longValueExact();
    }
    long odds(int n, int t, int v, int part) {
        if (n < 0 || v < 0 || t < 2) return 4000000000000000000L - no(-4);
        if (n > 7 || t > 20 || v > 999) return 4000000000000000000L - no(-6);
        if (part < 0 || part > 1) return 4000000000000000000L - no(-2);
        int some = Math.min(n, now.order().size());
        return part(ways(now, some, t, v), BigInteger.valueOf(t).pow(some), part);
    }
    private static BigInteger ways(State s, int some, int t, int v) {
        if (some == 0) return s.last() <= v ? BigInteger.ONE : BigInteger.ZERO;
        return ways(s.wedOne(5), some - 1, t, v).add(ways(s.wedOne(0), some - 1, t, v).multiply(BigInteger.valueOf(t - 1)));
    }
    int two(int one, int other) {
        if (nobody(one) || nobody(other) || one == other) return no(-1);
        if (now.wed(one) || now.wed(other)) return no(-3);
        State[][] s = {{now, now.first(other)}, {now.first(one), now.first(other).first(one)}};
        int[][] a = new int[2][2];
        int[][] b = new int[2][2];
        for (int i = 0; i < 4; i++) {
            a[i / 2][i % 2] = -s[i / 2][i % 2].mind().late(one) - 4 * (i / 2);
            b[i / 2][i % 2] = -s[i / 2][i % 2].mind().late(other) - 4 * (i % 2);
        }
        for (int i = 0; i < 2; i++) {
            for (int j = 0; j < 2; j++) {
                if (a[i][j] >= a[1 - i][j] && b[i][j] >= b[i][1 - j]) return 10 * i + j;
            }
        }
        return -9;
    }
    private boolean asTold(State s) {
        List<Held> h = s.mind().held();
        if (row.size() > h.size()) return false;
        for (int i = 0; i < row.size(); i++) if (h.get(i).ends() != row.get(i)) return false;
        return true;
    }
    int whatWas(int couple, int what) {
        if (nobody(couple)) return no(-1);
        if (what < 0 || what > 3) return no(-2);
        List<Integer> so = new ArrayList<>();
        for (int i = 0; i < new int[] {6, 10, 241, 241}[what]; i++) {
            int v = i;
            State s = now.withChanged(couple, c -> what == 0 ? new Couple(v, c.figure(), c.at())
                : what == 1 ? new Couple(c.kind(), v, c.at()) : new Couple(c.kind(), c.figure(), v));
            if (asTold(s)) so.add(v);
        }
        if (what == 2) return so.size();
        if (what == 3) return so.isEmpty() ? -9 : so.get(0);
        return so.stream().mapToInt(v -> 1 << v).sum();
    }
    int longest(int what) {
        if (what < 0 || what > 2) return no(-2);
        int n = now.couples().size();
        if (what == 2) {
            int twos = 0;
            for (int c = 0; c < n; c++) for (int d = 0; d < c; d++) if (Math.abs(now.couples().get(c).at() - now.couples().get(d).at()) < 15) twos++;
            return twos;
        }
        int[] of = new int[n];
        for (int c = 0; c < n; c++) of[c] = what == 0 ? now.couples().get(c).lasts() : now.wed(c) ? -1 : now.couples().get(c).guests();
        int most = Arrays.stream(of).max().orElse(-1);
        return most < 0 ? -9 : firstOf(of, most);
    }
    long mean(int part) {
        if (part < 0 || part > 1) return 4000000000000000000L - no(-2);
        return part(BigInteger.valueOf(now.allLate()), BigInteger.valueOf(Math.max(1, now.couples().size())), part);
    }
    int early() {
        int bits = 0;
        State m = now.mind();
        for (int c = 0; c < m.couples().size(); c++) if (m.held().get(c).begins() < m.couples().get(c).at()) bits += 1 << c;
        return bits;
    }
    int worst() {
        int[] of = new int[7];
        State m = now.mind();
        for (int c = 0; c < m.couples().size(); c++) of[c] = m.late(c);
        int most = Arrays.stream(of).max().getAsInt();
        return most == 0 ? -9 : firstOf(of, most);
    }
    int idle() { return (int) Arrays.stream(insides()).limit(now.last()).filter(g -> g == 0).count(); }
    int span() {
        int most = 0;
        for (int c = 0; c < now.couples().size(); c++) most = Math.max(most, waited(c));
        return most;
    }
    int swap() {
        List<Integer> names = new ArrayList<>();
        List<State> states = new ArrayList<>();
        List<Integer> waiting = now.order().stream().sorted().toList();
        for (int c : waiting) {
            for (int d : waiting) {
                if (c < d) {
                    List<Integer> o = now.order().stream().map(e -> e == c ? Integer.valueOf(d) : e == d ? Integer.valueOf(c) : e).toList();
                    names.add(10 * c + d);
                    states.add(now.withOrder(o));
                }
            }
        }
        return leastLate(names, states);
    }
    int turned() {
        List<Integer> o = new ArrayList<>(now.order());
        java.util.Collections.reverse(o);
        return now.withOrder(o).allLate();
    }
    int shift() {
        for (int m = 0; m <= 60; m++) {
            int later = m;
            State s = now;
            for (int c : now.order()) s = s.withChanged(c, x -> new Couple(x.kind(), x.figure(), x.at() + later));
            State all = s.mind();
            if (now.order().stream().allMatch(c -> all.late(c) == 0)) return m;
        }
        return -9;
    }
    int row(int v) {
        if (v < 0) return no(-4);
        if (v > 999 || row.size() == 12) return no(-6);
        row.add(v);
        return row.size();
    }
    int judge() {
        List<Held> h = now.mind().held();
        int answer = -9;
        for (int i = row.size() - 1; i >= 0; i--) if (i >= h.size() || h.get(i).begins() != row.get(i)) answer = i;
        row.clear();
        return answer;
    }
    int clear() {
        int had = row.size();
        row.clear();
        return had;
    }
    int lots(int n, int z, int what) {
        if (n < 1) return no(-4);
        if (n > 20) return no(-6);
        if (what < 0 || what > 1) return no(-2);
        BigInteger seed = BigInteger.valueOf(z & 0xffffffffL);
        int sum = 0;
        for (int i = 0; i < n; i++) {
            State s = now;
            for (int c : now.order().stream().sorted().toList()) {
                seed = seed.multiply(BigInteger.valueOf(1103515245)).add(BigInteger.valueOf(12345)).mod(BigInteger.ONE.shiftLeft(32));
                int figure = seed.clearBit(31).shiftRight(16).mod(BigInteger.TEN).intValue();
                s = s.withChanged(c, x -> new Couple(x.kind(), figure, x.at()));
            }
            sum += what == 0 ? s.allLate() : s.meetings().size();
        }
        return sum;
    }
    int image() {
        image = now;
        return now.order().size();
    }
    int restore() {
        if (image == null) return no(-3);
        changeForGood(image);
        return now.order().size();
    }
    int count(int what) {
        int wed = 0;
        for (int c = 0; c < now.couples().size(); c++) if (now.wed(c)) wed += 1 << c;
        return switch (what) {
            case 0 -> now.couples().size();
            case 1 -> now.order().size();
            case 2 -> wed;
            case 3 -> now.free().size();
            case 4 -> now.tired();
            case 5 -> now.slack();
            case 6 -> letters.length();
            case 7 -> row.size();
            case 8 -> past.size();
            case 11, 12, 13, 14, 15, 16 -> refusals[what - 10];
            default -> -9;
        };
    }
}
