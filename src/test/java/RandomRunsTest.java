import java.util.Random;

/** Runs of calls by a fixed seed, each answer compared with the one of the Model. */
final class RandomRunsTest {
    private static final String[] CALLS = {"feed", "hall", "coupleOf", "order", "free", "couple", "rooms", "weds", "pulls", "slack", "rests", "back",
        "when", "waits", "all", "met", "best", "pull", "bestSlack", "rest", "saved", "can", "fountain", "fountains", "inside", "crowded", "price",
        "odds", "two", "whatWas", "longest", "mean", "early", "worst", "idle", "span", "swap", "turned", "shift", "row", "judge", "clear", "lots",
        "image", "restore", "count", "tell", "tellEnds", "tellBegins"};

    private final Random dice;
    private final EveryTwentyMinutes x = new EveryTwentyMinutes();
    private final Model m = new Model();
    private final StringBuilder story = new StringBuilder();
    private int calls = 0;

    private RandomRunsTest(long seed) {
        dice = new Random(seed);
    }

    public static void main(String[] args) {
        for (int run = 0; run < 600; run++) {
            RandomRunsTest test = new RandomRunsTest(run);
            if (!test.goes(run % 4)) {
                System.out.println("random run " + run + " differs:\n" + test.story);
                System.exit(1);
            }
        }
        System.out.println("600 random runs answer as the model does");
    }

    private boolean goes(int sort) {
        while (calls < 500) {
            String call = CALLS[dice.nextInt(CALLS.length)];
            // Late in a Saturday little can be told apart: some runs are spared most of the rests and weddings.
            if (sort == 0 && (call.equals("rests") || call.equals("weds")) && dice.nextInt(4) > 0) continue;
            if (sort == 1 && call.equals("restore") && dice.nextInt(3) > 0) continue;
            if (call.equals("best") && dice.nextInt(3) > 0) continue;
            boolean same = switch (call) {
                case "tell" -> tell(statements());
                case "tellEnds" -> tellRow(1);
                case "tellBegins" -> tellRow(0) && same("judge", 0, 0, 0, 0);
                default -> oneCall(call);
            };
            if (!same) return false;
        }
        for (int what = -1; what <= 18; what++) if (!same("count", what, 0, 0, 0)) return false;
        return true;
    }

    private int near(int least, int most) {
        return switch (dice.nextInt(20)) {
            case 0 -> least - 1;
            case 1 -> most + 1;
            case 2 -> dice.nextInt();
            case 3 -> least;
            case 4 -> most;
            default -> least + dice.nextInt(most - least + 1);
        };
    }

    private int who() { return dice.nextInt(12) == 0 ? near(0, 6) : dice.nextInt(Math.max(1, m.count(0))); }

    private int at() { return dice.nextBoolean() ? near(0, 240) : 20 * dice.nextInt(7); }

    private String statements() {
        StringBuilder b = new StringBuilder();
        for (int i = 1 + dice.nextInt(9); i > 0; i--) {
            switch (dice.nextInt(9)) {
                case 0 -> b.append('s').append(dice.nextInt(10));
                case 1 -> b.append('r').append(1 + dice.nextInt(dice.nextInt(5) == 0 ? 3 : 2));
                case 2 -> b.append('f').append(dice.nextInt(7));
                case 3 -> b.append('w').append(dice.nextInt(4));
                case 4 -> b.append('b').append(String.format("%02d", dice.nextInt(33)));
                default -> b.append('c').append(dice.nextInt(6)).append(dice.nextInt(10)).append(String.format("%03d", dice.nextInt(130)));
            }
            b.append(';');
        }
        if (dice.nextInt(4) == 0) b.setLength(dice.nextInt(b.length() + 1));
        if (dice.nextInt(4) == 0 && b.length() > 0) b.setCharAt(dice.nextInt(b.length()), "csrfwb;0123456789x".charAt(dice.nextInt(18)));
        return b.toString();
    }

    private boolean tell(String text) {
        for (int i = 0; i < text.length() && calls < 500; i++) if (!same("feed", text.charAt(i), 0, 0, 0)) return false;
        return same("hall", 0, 0, 0, 0);
    }

    private boolean tellRow(int what) {
        if (!same("clear", 0, 0, 0, 0)) return false;
        for (int c = 0; c < m.count(0); c++) {
            if (!same("row", m.when(c, what) + (dice.nextInt(30) == 0 ? 1 : 0), 0, 0, 0)) return false;
            if (dice.nextInt(5) == 0) break;
        }
        return true;
    }

    private boolean oneCall(String call) {
        return switch (call) {
            case "feed" -> same(call, near(0, 255), 0, 0, 0);
            case "coupleOf" -> same(call, who(), near(0, 7), 0, 0);
            case "order" -> same(call, near(0, 6), 0, 0, 0);
            case "free" -> same(call, near(0, 1), 0, 0, 0);
            case "couple" -> same(call, near(0, 5), near(0, 9), at(), 0);
            case "rooms" -> same(call, near(1, 2), 0, 0, 0);
            case "weds" -> same(call, dice.nextInt(3) == 0 ? near(1, 7) : 1, 0, 0, 0);
            case "slack" -> same(call, near(0, 9), 0, 0, 0);
            case "rests" -> same(call, near(1, 30), 0, 0, 0);
            case "when", "whatWas" -> same(call, who(), near(0, 3), 0, 0);
            case "waits", "pulls", "fountain" -> same(call, who(), 0, 0, 0);
            case "met", "longest" -> same(call, near(0, 2), 0, 0, 0);
            case "all", "bestSlack", "fountains", "mean" -> same(call, near(0, 1), 0, 0, 0);
            case "best" -> same(call, near(-1, 7), 0, 0, 0);
            case "can" -> same(call, near(0, 9), at(), dice.nextBoolean() ? near(0, 999) : Math.min(999, m.all(1) + dice.nextInt(50)), 0);
            case "inside", "price" -> same(call, dice.nextBoolean() ? near(0, 999) : near(0, 240), 0, 0, 0);
            case "odds" -> same(call, near(0, 7), near(2, 20), dice.nextInt(4) == 0 ? near(0, 999) : Math.min(999, m.all(1) + dice.nextInt(16)), near(0, 1));
            case "two" -> same(call, who(), who(), 0, 0);
            case "row" -> same(call, near(0, 999), 0, 0, 0);
            case "lots" -> same(call, near(1, 20), dice.nextInt(), near(0, 1), 0);
            case "count" -> same(call, near(0, 17), 0, 0, 0);
            default -> same(call, 0, 0, 0, 0);
        };
    }

    private boolean same(String call, int a, int b, int c, int d) {
        calls++;
        long got = answerOf(call, a, b, c, d);
        long due = dueOf(call, a, b, c, d);
        story.append(call).append('(').append(a).append(", ").append(b).append(", ").append(c).append(", ").append(d).append(") ").append(got);
        if (got != due) story.append(", the model: ").append(due);
        story.append('\n');
        return got == due;
    }

    private long answerOf(String call, int a, int b, int c, int d) {
        return switch (call) {
            case "feed" -> x.feed(a); case "hall" -> x.hall(); case "coupleOf" -> x.coupleOf(a, b); case "order" -> x.order(a);
            case "free" -> x.free(a); case "couple" -> x.couple(a, b, c); case "rooms" -> x.rooms(a); case "weds" -> x.weds(a);
            case "pulls" -> x.pulls(a); case "slack" -> x.slack(a); case "rests" -> x.rests(a); case "back" -> x.back();
            case "when" -> x.when(a, b); case "waits" -> x.waits(a); case "all" -> x.all(a); case "met" -> x.met(a); case "best" -> x.best(a);
            case "pull" -> x.pull(); case "bestSlack" -> x.bestSlack(a); case "rest" -> x.rest(); case "saved" -> x.saved();
            case "can" -> x.can(a, b, c); case "fountain" -> x.fountain(a); case "fountains" -> x.fountains(a); case "inside" -> x.inside(a);
            case "crowded" -> x.crowded(); case "price" -> x.price(a); case "odds" -> x.odds(a, b, c, d); case "two" -> x.two(a, b);
            case "whatWas" -> x.whatWas(a, b); case "longest" -> x.longest(a); case "mean" -> x.mean(a); case "early" -> x.early();
            case "worst" -> x.worst(); case "idle" -> x.idle(); case "span" -> x.span(); case "swap" -> x.swap(); case "turned" -> x.turned();
            case "shift" -> x.shift(); case "row" -> x.row(a); case "judge" -> x.judge(); case "clear" -> x.clear();
            case "lots" -> x.lots(a, b, c); case "image" -> x.image(); case "restore" -> x.restore(); case "count" -> x.count(a);
            default -> throw new IllegalArgumentException(call);
        };
    }

    private long dueOf(String call, int a, int b, int c, int d) {
        return switch (call) {
            case "feed" -> m.feed(a); case "hall" -> m.hall(); case "coupleOf" -> m.coupleOf(a, b); case "order" -> m.order(a);
            case "free" -> m.free(a); case "couple" -> m.couple(a, b, c); case "rooms" -> m.rooms(a); case "weds" -> m.weds(a);
            case "pulls" -> m.pulls(a); case "slack" -> m.slack(a); case "rests" -> m.rests(a); case "back" -> m.back();
            case "when" -> m.when(a, b); case "waits" -> m.waits(a); case "all" -> m.all(a); case "met" -> m.met(a); case "best" -> m.best(a);
            case "pull" -> m.pull(); case "bestSlack" -> m.bestSlack(a); case "rest" -> m.rest(); case "saved" -> m.saved();
            case "can" -> m.can(a, b, c); case "fountain" -> m.fountain(a); case "fountains" -> m.fountains(a); case "inside" -> m.inside(a);
            case "crowded" -> m.crowded(); case "price" -> m.price(a); case "odds" -> m.odds(a, b, c, d); case "two" -> m.two(a, b);
            case "whatWas" -> m.whatWas(a, b); case "longest" -> m.longest(a); case "mean" -> m.mean(a); case "early" -> m.early();
            case "worst" -> m.worst(); case "idle" -> m.idle(); case "span" -> m.span(); case "swap" -> m.swap(); case "turned" -> m.turned();
            case "shift" -> m.shift(); case "row" -> m.row(a); case "judge" -> m.judge(); case "clear" -> m.clear();
            case "lots" -> m.lots(a, b, c); case "image" -> m.image(); case "restore" -> m.restore(); case "count" -> m.count(a);
            default -> throw new IllegalArgumentException(call);
        };
    }
}
