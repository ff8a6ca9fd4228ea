/** Each promise by answers that were worked out by hand: ordinary ones, the edges, wrong inputs. */
final class PromisesTest {
    /** LONG 4 at 0 (2 to 29), PULLED 2 at 30 (29 to 38), SHORT 0 at 40 (40 to 50). */
    private static final String THREE = "c24000;c42030;c10040;";
    /** Order 3, 0, 1, 2, 4, 5, 6; ends 90, 104, 135, 70, 146, 183, 200. */
    private static final String SEVEN = "c03000;c15010;c26020;c34040;c42060;c57080;c00100;s2;f3;";

    private static final int[] looked = new int[48];
    private static int promise = 0;
    private static int wrong = 0;

    public static void main(String[] args) {
        newObject();
        letters();
        hallComes();
        hallFaultsOfForm();
        hallFaultsOfSense();
        hallLeaves();
        coupleOf();
        orderAndFree();
        couple();
        rooms();
        weds();
        wedsTired();
        pulls();
        slack();
        rests();
        back();
        backIsLeftByOthers();
        when();
        whenInTwoRooms();
        whenEachKindBegins();
        waitsAndAll();
        met();
        best();
        pullAndSwap();
        bestSlack();
        rest();
        saved();
        can();
        fountain();
        inside();
        price();
        odds();
        two();
        whatWas();
        longest();
        mean();
        earlyWorstIdleSpan();
        turned();
        shift();
        rowAndJudge();
        lots();
        image();
        count();
        for (int p = 1; p <= 47; p++) {
            if (looked[p] == 0) {
                wrong++;
                System.out.println("promise " + p + " is not looked at");
            }
        }
        System.out.println(wrong == 0 ? "all promises are kept" : wrong + " answers are not as due");
        if (wrong != 0) System.exit(1);
    }

    private static void promise(int number) {
        promise = number;
    }

    private static void due(long due, long got, String call) {
        looked[promise]++;
        if (got != due) {
            wrong++;
            System.out.println("promise " + promise + ": " + call + " answered " + got + ", due is " + due);
        }
    }

    private static int tell(EveryTwentyMinutes x, String text) {
        for (int i = 0; i < text.length(); i++) x.feed(text.charAt(i));
        return x.hall();
    }

    private static EveryTwentyMinutes hall(String text) {
        EveryTwentyMinutes x = new EveryTwentyMinutes();
        if (tell(x, text) < 1) throw new IllegalArgumentException(text);
        return x;
    }

    private static void row(EveryTwentyMinutes x, int... numbers) {
        x.clear();
        for (int v : numbers) x.row(v);
    }

    private static void free(EveryTwentyMinutes x, int minute) {
        for (int m = minute; m > 0; m -= Math.min(m, 30)) x.rests(Math.min(m, 30));
    }

    private static void newObject() {
        promise(1);
        EveryTwentyMinutes x = new EveryTwentyMinutes();
        for (int what : new int[] {0, 1, 2, 4, 5, 6, 7, 8, 11, 12, 13, 14, 15, 16}) due(0, x.count(what), "count(" + what + ")");
        due(1, x.count(3), "count(3)");
        due(0, x.free(0), "free(0)");
        due(-2, x.free(1), "free(1)");
        due(-3, x.restore(), "restore()");
    }

    private static void letters() {
        promise(2);
        EveryTwentyMinutes x = new EveryTwentyMinutes();
        due(1, x.feed(0), "feed(0)");
        due(2, x.feed(255), "feed(255)");
        due(-4, x.feed(-1), "feed(-1)");
        due(-4, x.feed(Integer.MIN_VALUE), "feed(least)");
        due(-6, x.feed(256), "feed(256)");
        for (int i = 3; i <= 96; i++) due(i, x.feed('c'), "feed(c)");
        due(-6, x.feed('c'), "feed(c), the 97th");
        due(-4, x.feed(-1), "feed(-1), full");
        due(96, x.count(6), "count(6)");
        due(3, x.count(14), "count(14)");
        due(2, x.count(16), "count(16)");
        due(-1000, x.hall(), "hall()");
        due(1, x.feed('c'), "feed(c), emptied");
    }

    private static void hallComes() {
        promise(3);
        EveryTwentyMinutes x = new EveryTwentyMinutes();
        due(9, tell(x, SEVEN), "hall(seven)");
        due(7, x.count(0), "count(0)");
        due(2, x.count(5), "count(5)");
        due(3, x.order(0), "order(0)");
        due(0, x.order(1), "order(1)");
        due(0, x.count(6), "count(6)");
        due(4, tell(x, "w2;b05;r2;f6;"), "hall(w2;b05;r2;f6;)");
        due(9, x.count(2), "count(2)");
        due(97, x.free(0), "free(0)");
        due(97, x.free(1), "free(1)");
        due(0, x.count(4), "count(4)");
        due(6, x.order(0), "order(0)");
        due(1, tell(x, "r1;"), "hall(r1;)");
        due(1, x.count(3), "count(3)");
        due(1, tell(x, "w5;"), "hall(w5;)");
        due(0, x.count(1), "count(1)");
        due(32, tell(new EveryTwentyMinutes(), "s1;".repeat(32)), "hall(96 letters)");
        due(1, tell(new EveryTwentyMinutes(), "c59240;"), "hall(c59240;)");
        due(1, tell(new EveryTwentyMinutes(), "b30;"), "hall(b30;)");
        due(2, tell(new EveryTwentyMinutes(), "b01;s0;"), "hall(b01;s0;)");
    }

    private static void hallFaultsOfForm() {
        promise(3);
        String[] texts = {"", "c", "c24000", "c2400;", "c24000;x", "c24000;C", "S1;", ";", "s;", "s1", "s1:", "s12;", "w", "b1;", "b123;", "ca", "c24/00;", "c24:00;",
            "s1;s", "s1; s1;", "c99999;c", "w9;x", "r", "f7", "b99", "0"};
        int[] places = {0, 1, 6, 5, 7, 7, 0, 0, 1, 2, 2, 2, 1, 2, 3, 1, 3, 3,
            4, 3, 8, 3, 1, 2, 3, 0};
        for (int i = 0; i < texts.length; i++) due(-1000 - places[i], tell(new EveryTwentyMinutes(), texts[i]), "hall(" + texts[i] + ")");
        due(-1095, tell(new EveryTwentyMinutes(), "s1;".repeat(31) + "s1s"), "hall(.. s1s), 96 letters");
        due(-1096, tell(new EveryTwentyMinutes(), "s1;".repeat(31) + "b12"), "hall(.. b12), 96 letters");
    }

    private static void hallFaultsOfSense() {
        promise(3);
        String[] texts = {"c60000;", "c00241;", "r0;", "r3;", "f0;", "w0;", "w1;", "w8;", "b00;", "b31;", "s9;c90000;", "c00000;w1;f0;", "c00000;f1;", "c00000;w2;",
            "c00000;w1;w1;", "c00000;".repeat(8), "b31;f9;", "f0;c00000;", "c00999;"};
        int[] places = {0, 0, 0, 0, 0, 0, 0, 0, 0, 0, 3, 10, 7, 7,
            10, 49, 0, 0, 0};
        for (int i = 0; i < texts.length; i++) due(-2000 - places[i], tell(new EveryTwentyMinutes(), texts[i]), "hall(" + texts[i] + ")");
        EveryTwentyMinutes x = hall(SEVEN);
        due(-2000, tell(x, "c00000;"), "hall(c00000;), no room");
        due(-2000, tell(x, "w8;"), "hall(w8;)");
        due(-2003, tell(x, "w7;w1;"), "hall(w7;w1;)");
        due(-2000, tell(x, "f7;"), "hall(f7;)");
        due(0, x.count(2), "count(2)");
        for (int what = 11; what <= 16; what++) due(0, x.count(what), "count(" + what + "), nothing is counted");
    }

    private static void hallLeaves() {
        promise(3);
        EveryTwentyMinutes x = hall(THREE);
        x.slack(3);
        x.rests(4);
        due(-2006, tell(x, "s7;w2;r3;"), "hall(s7;w2;r3;)");
        due(3, x.count(5), "count(5), nothing came");
        due(3, x.count(1), "count(1), nothing came");
        due(4, x.free(0), "free(0), nothing came");
        due(2, x.count(8), "count(8), a FAULT leaves all");
        due(0, x.count(6), "count(6), the letters are no more");
        due(-1001, tell(x, "s"), "hall(s)");
        due(2, x.count(8), "count(8), a FAULT leaves all");
        due(1, tell(x, "s3;"), "hall(s3;)");
        due(0, x.count(8), "count(8), a HALL leaves none");
    }

    private static void coupleOf() {
        promise(4);
        EveryTwentyMinutes x = hall(SEVEN);
        int[][] of = {{0, 3, 0, 0, 18, 0, 7, 3}, {1, 5, 10, 0, 12, 5, 4, 3}, {2, 6, 20, 0, 29, 23, 20, 9}, {3, 4, 40, 0, 19, 51, 8, 3},
            {4, 2, 60, 0, 9, 40, 3, 3}, {5, 7, 80, 0, 35, 83, 19, 10}, {0, 0, 100, 0, 15, 100, 4, 3}};
        for (int c = 0; c < 7; c++) for (int w = 0; w < 8; w++) due(of[c][w], x.coupleOf(c, w), "coupleOf(" + c + ", " + w + ")");
        x.weds(1);
        due(1, x.coupleOf(3, 3), "coupleOf(3, 3)");
        due(0, x.coupleOf(0, 3), "coupleOf(0, 3)");
        EveryTwentyMinutes y = hall("c10004;c40019;c10005;c40020;c49021;");
        due(0, y.coupleOf(0, 5), "coupleOf(0, 5), SHORT at 4");
        due(0, y.coupleOf(1, 5), "coupleOf(1, 5), PULLED at 19");
        due(0, y.coupleOf(2, 5), "coupleOf(2, 5), SHORT at 5");
        due(0, y.coupleOf(3, 5), "coupleOf(3, 5), PULLED at 20");
        due(1, y.coupleOf(4, 5), "coupleOf(4, 5), PULLED at 21");
        due(12, y.coupleOf(4, 4), "coupleOf(4, 4)");
        due(6, y.coupleOf(4, 6), "coupleOf(4, 6)");
        due(-1, y.coupleOf(5, 0), "coupleOf(5, 0)");
        due(-1, y.coupleOf(-1, 9), "coupleOf(-1, 9)");
        due(-2, y.coupleOf(0, 8), "coupleOf(0, 8)");
        due(-2, y.coupleOf(0, -1), "coupleOf(0, -1)");
        due(2, y.count(11), "count(11)");
        due(2, y.count(12), "count(12)");
    }

    private static void orderAndFree() {
        promise(5);
        EveryTwentyMinutes x = hall(THREE);
        due(0, x.order(0), "order(0)");
        due(2, x.order(2), "order(2)");
        due(-9, x.order(3), "order(3)");
        due(-9, x.order(Integer.MAX_VALUE), "order(most)");
        due(-4, x.order(-1), "order(-1)");
        x.weds(2);
        due(2, x.order(0), "order(0)");
        due(-9, x.order(1), "order(1)");
        promise(6);
        due(38, x.free(0), "free(0)");
        due(-2, x.free(1), "free(1)");
        due(-2, x.free(-1), "free(-1)");
        x.rooms(2);
        due(38, x.free(1), "free(1)");
        due(-2, x.free(2), "free(2)");
        due(3, x.count(12), "count(12)");
    }

    private static void couple() {
        promise(7);
        EveryTwentyMinutes x = new EveryTwentyMinutes();
        due(-2, x.couple(6, -1, -1), "couple(6, -1, -1)");
        due(-2, x.couple(-1, 0, 0), "couple(-1, 0, 0)");
        due(-4, x.couple(0, -1, 241), "couple(0, -1, 241)");
        due(-4, x.couple(0, 10, -1), "couple(0, 10, -1)");
        due(-6, x.couple(0, 10, 0), "couple(0, 10, 0)");
        due(-6, x.couple(0, 0, 241), "couple(0, 0, 241)");
        due(0, x.count(0), "count(0)");
        due(0, x.couple(5, 9, 240), "couple(5, 9, 240)");
        x.weds(1);
        for (int i = 1; i < 7; i++) due(i, x.couple(0, 0, 0), "couple(0, 0, 0)");
        due(-6, x.couple(0, 0, 0), "couple(0, 0, 0), 7 are there");
        due(-4, x.couple(0, 0, -1), "couple(0, 0, -1), 7 are there");
        due(1, x.order(0), "order(0)");
        due(6, x.order(5), "order(5)");
        due(3, x.count(14), "count(14)");
    }

    private static void rooms() {
        promise(8);
        EveryTwentyMinutes x = hall(THREE);
        due(-4, x.rooms(0), "rooms(0)");
        due(-6, x.rooms(3), "rooms(3)");
        x.weds(1);
        due(1, x.rooms(2), "rooms(2)");
        due(29, x.free(1), "free(1)");
        x.rests(1);
        x.weds(1);
        due(39, x.free(0), "free(0)");
        due(30, x.free(1), "free(1)");
        due(2, x.rooms(2), "rooms(2), there are two");
        due(30, x.free(1), "free(1), it is no other");
        due(2, x.rooms(1), "rooms(1)");
        due(-2, x.free(1), "free(1)");
        due(39, x.free(0), "free(0)");
        due(1, x.rooms(2), "rooms(2)");
        due(39, x.free(1), "free(1), a new one");
    }

    private static void weds() {
        promise(9);
        EveryTwentyMinutes x = hall(THREE);
        due(-4, x.weds(0), "weds(0)");
        due(-6, x.weds(8), "weds(8)");
        due(-3, x.weds(4), "weds(4)");
        due(-3, x.weds(7), "weds(7)");
        due(29, x.weds(1), "weds(1)");
        due(6, x.count(4), "count(4)");
        due(50, x.weds(2), "weds(2)");
        due(7, x.count(2), "count(2)");
        due(10, x.count(4), "count(4), 6 and 2 and 2");
        due(-3, x.weds(1), "weds(1)");
        due(200, hall(SEVEN).weds(7), "weds(7)");
        due(10, hall("r2;c29000;c10000;").weds(2), "weds(2), the last of them, not the latest");
        EveryTwentyMinutes late = hall("c00000;c00000;s9;");
        free(late, 984);
        due(999, late.weds(1), "weds(1), at 984");
        due(999, late.free(0), "free(0)");
        due(999, late.weds(1), "weds(1), at 999");
        due(999, late.when(1, 0), "when(1, 0)");
        due(6, late.count(4), "count(4), by what it took");
    }

    private static void wedsTired() {
        promise(9);
        EveryTwentyMinutes x = hall("c09000;".repeat(6));
        due(96, x.weds(4), "weds(4)");
        due(24, x.count(4), "count(4)");
        due(120, x.weds(1), "weds(1), not so TIRED yet");
        due(30, x.count(4), "count(4)");
        due(146, x.weds(1), "weds(1), TIRED");
        due(36, x.count(4), "count(4), 26 has 6");
        EveryTwentyMinutes y = hall("c59000;".repeat(7));
        due(269, y.weds(7), "weds(7)");
        due(63, y.count(4), "count(4)");
        due(191, y.when(5, 0), "when(5, 0)");
    }

    private static void pulls() {
        promise(10);
        EveryTwentyMinutes x = hall(THREE);
        due(2, x.pulls(2), "pulls(2)");
        due(1, x.pulls(0), "pulls(0)");
        due(0, x.pulls(0), "pulls(0)");
        due(0, x.order(0), "order(0)");
        due(2, x.order(1), "order(1)");
        due(1, x.order(2), "order(2)");
        due(3, x.count(8), "count(8)");
        x.weds(1);
        due(-3, x.pulls(0), "pulls(0)");
        due(-1, x.pulls(3), "pulls(3)");
        due(-1, x.pulls(-1), "pulls(-1)");
        due(1, x.pulls(1), "pulls(1)");
    }

    private static void slack() {
        promise(11);
        EveryTwentyMinutes x = hall(THREE);
        due(0, x.slack(9), "slack(9)");
        due(9, x.slack(3), "slack(3)");
        due(-4, x.slack(-1), "slack(-1)");
        due(-6, x.slack(10), "slack(10)");
        due(29, x.weds(1), "weds(1)");
        due(32, x.free(0), "free(0)");
        due(3, x.slack(0), "slack(0)");
        due(32, x.free(0), "free(0), as it was");
    }

    private static void rests() {
        promise(12);
        EveryTwentyMinutes x = hall(THREE + "r2;");
        x.weds(1);
        due(-4, x.rests(0), "rests(0)");
        due(-6, x.rests(31), "rests(31)");
        due(6, x.rests(30), "rests(30)");
        due(0, x.count(4), "count(4)");
        due(59, x.free(0), "free(0)");
        due(30, x.free(1), "free(1)");
        due(0, x.rests(1), "rests(1)");
        due(60, x.free(0), "free(0)");
        free(x, 938);
        due(998, x.free(0), "free(0)");
        x.rests(2);
        due(999, x.free(0), "free(0)");
        due(971, x.free(1), "free(1)");
    }

    private static void back() {
        promise(13);
        EveryTwentyMinutes x = hall(THREE);
        due(-3, x.back(), "back()");
        x.slack(5);
        x.pulls(1);
        x.rests(7);
        x.weds(2);
        due(4, x.count(8), "count(8)");
        due(3, x.back(), "back()");
        due(0, x.count(2), "count(2)");
        due(1, x.order(0), "order(0)");
        due(7, x.free(0), "free(0)");
        due(0, x.count(4), "count(4)");
        due(2, x.back(), "back()");
        due(0, x.free(0), "free(0)");
        due(1, x.back(), "back()");
        due(0, x.order(0), "order(0)");
        due(0, x.back(), "back()");
        due(0, x.count(5), "count(5)");
        due(-3, x.back(), "back()");
        for (int s = 1; s <= 9; s++) x.slack(s);
        x.slack(9);
        due(8, x.count(8), "count(8)");
        for (int i = 7; i >= 0; i--) due(i, x.back(), "back()");
        due(2, x.count(5), "count(5), older ones no more");
        due(-3, x.back(), "back()");
        due(3, x.count(13), "count(13)");
        EveryTwentyMinutes y = hall(THREE);
        y.weds(1);
        y.rests(5);
        y.back();
        due(6, y.count(4), "count(4)");
        due(29, y.free(0), "free(0)");
        y.back();
        due(2, y.when(0, 0), "when(0, 0)");
        due(0, y.free(0), "free(0)");
    }

    private static void backIsLeftByOthers() {
        promise(13);
        EveryTwentyMinutes x = hall(THREE);
        x.image();
        x.slack(1);
        x.couple(6, 0, 0);
        x.couple(0, 10, 0);
        x.rooms(3);
        x.weds(4);
        x.slack(10);
        x.rests(0);
        x.pulls(9);
        due(1, x.count(8), "count(8), the refused change nothing");
        x.couple(0, 0, 0);
        due(-3, x.back(), "back(), couple() leaves none");
        x.slack(2);
        x.rooms(1);
        due(-3, x.back(), "back(), rooms() leaves none");
        x.slack(3);
        x.restore();
        due(-3, x.back(), "back(), restore() leaves none");
        x.slack(4);
        x.image();
        due(1, x.count(8), "count(8), image() leaves it");
    }

    private static void when() {
        promise(14);
        EveryTwentyMinutes x = hall(SEVEN);
        int[][] of = {{72, 90, 0, 72}, {92, 104, 0, 82}, {106, 135, 0, 86}, {51, 70, 0, 11}, {137, 146, 0, 77}, {148, 183, 0, 68}, {185, 200, 0, 85}};
        for (int c = 0; c < 7; c++) for (int w = 0; w < 4; w++) due(of[c][w], x.when(c, w), "when(" + c + ", " + w + ")");
        due(0, x.count(2), "count(2), it is in mind");
        due(-1, x.when(7, 0), "when(7, 0)");
        due(-1, x.when(-1, 4), "when(-1, 4)");
        due(-2, x.when(0, 4), "when(0, 4)");
        due(-2, x.when(0, -1), "when(0, -1)");
        EveryTwentyMinutes y = hall(THREE);
        due(29, y.when(1, 0), "when(1, 0)");
        due(0, y.when(1, 3), "when(1, 3), ahead of AT is not LATE");
        y.weds(1);
        y.slack(9);
        y.rests(20);
        due(2, y.when(0, 0), "when(0, 0), as it was");
        due(29, y.when(0, 1), "when(0, 1), as it was");
        due(49, y.when(1, 0), "when(1, 0)");
        due(67, y.when(2, 0), "when(2, 0)");
        due(27, y.when(2, 3), "when(2, 3)");
    }

    private static void whenInTwoRooms() {
        promise(14);
        EveryTwentyMinutes x = hall("r2;c24000;c42030;c10040;c00000;");
        due(0, x.when(0, 2), "when(0, 2)");
        due(1, x.when(1, 2), "when(1, 2)");
        due(10, x.when(1, 0), "when(1, 0)");
        due(1, x.when(2, 2), "when(2, 2)");
        due(0, x.when(3, 2), "when(3, 2), FREE at 29 ahead of 50");
        due(29, x.when(3, 0), "when(3, 0)");
        x.weds(2);
        x.rooms(1);
        due(1, x.when(1, 2), "when(1, 2), as it was");
        due(0, x.when(2, 2), "when(2, 2)");
        EveryTwentyMinutes y = hall("r2;c00000;c00000;c00000;");
        due(1, y.when(1, 2), "when(1, 2)");
        due(0, y.when(2, 2), "when(2, 2), of two the first");
        due(15, y.when(2, 0), "when(2, 0)");
    }

    private static void whenEachKindBegins() {
        promise(14);
        int[] begins = {100, 100, 104, 116, 80, 104};
        for (int kind = 0; kind < 6; kind++) {
            EveryTwentyMinutes x = new EveryTwentyMinutes();
            x.couple(kind, 9, 100);
            due(begins[kind], x.when(0, 0), "when(0, 0) of kind " + kind);
            x.rests(30);
            x.rests(30);
            x.rests(30);
            due(Math.max(90, begins[kind]), x.when(0, 0), "when(0, 0) of kind " + kind + ", FREE at 90");
        }
    }

    private static void waitsAndAll() {
        promise(15);
        EveryTwentyMinutes x = hall(THREE);
        due(0, x.waits(0), "waits(0)");
        due(19, x.waits(1), "waits(1)");
        due(5, x.waits(2), "waits(2)");
        due(1000000001, x.waits(3), "waits(3)");
        due(1000000001, x.waits(-1), "waits(-1)");
        due(2, x.count(11), "count(11)");
        x.weds(2);
        due(19, x.waits(1), "waits(1)");
        promise(16);
        due(2, x.all(0), "all(0), WED ones too");
        due(50, x.all(1), "all(1)");
        due(481, hall(SEVEN).all(0), "all(0)");
        due(200, hall(SEVEN).all(1), "all(1)");
        due(36, hall("r2;c29000;c10000;").all(1), "all(1), the latest");
        due(-2, x.all(2), "all(2)");
        due(-2, x.all(-1), "all(-1)");
        due(0, new EveryTwentyMinutes().all(1), "all(1), nobody");
    }

    private static void met() {
        promise(17);
        EveryTwentyMinutes x = hall(THREE);
        due(2, x.met(0), "met(0), 29 and 29, 38 and 40");
        due(1, x.met(1), "met(1)");
        due(1, x.met(2), "met(2)");
        EveryTwentyMinutes s = hall(SEVEN);
        due(6, s.met(0), "met(0)");
        due(1, s.met(1), "met(1)");
        due(0, s.met(2), "met(2)");
        due(-2, s.met(3), "met(3)");
        due(-2, s.met(-1), "met(-1)");
        s.slack(3);
        due(0, s.met(0), "met(0), 3 behind");
        due(-9, s.met(1), "met(1)");
        due(-9, s.met(2), "met(2)");
        // In two rooms: 1 from 0 to 15, 2 from 13 on.
        EveryTwentyMinutes two = hall("r2;c00200;c00000;c00013;f2;f1;");
        due(1, two.met(0), "met(0), 2 behind");
        due(12, two.met(1), "met(1)");
        due(1, two.met(2), "met(2)");
        due(0, hall("r2;c00000;c00012;").met(0), "met(0), 3 behind");
        due(1, hall("c00017;c00000;f1;").met(1), "met(1), the lesser first though it comes later");
    }

    private static void best() {
        promise(18);
        EveryTwentyMinutes x = hall("c09000;c10000;");
        due(10, x.best(-1), "best(-1)");
        due(1, x.best(0), "best(0)");
        due(0, x.best(1), "best(1)");
        due(-9, x.best(2), "best(2)");
        due(-4, x.best(-2), "best(-2)");
        due(24, x.all(0), "all(0), it is in mind");
        EveryTwentyMinutes y = hall("c00200;c00100;c00000;");
        for (int i = 0; i < 3; i++) due(2 - i, y.best(i), "best(" + i + "), by AT");
        due(0, y.best(-1), "best(-1)");
        EveryTwentyMinutes z = hall("c09000;c09000;f1;");
        due(0, z.best(0), "best(0), of several the first");
        z.weds(1);
        due(24, z.best(-1), "best(-1), one WED");
        due(0, z.best(0), "best(0), of those not WED");
        due(-9, z.best(1), "best(1)");
        due(24, hall("c09000;c09000;w2;").best(-1), "best(-1), all WED");
        EveryTwentyMinutes seven = hall("c00000;".repeat(7) + "f6;f3;");
        for (int i = 0; i < 7; i++) due(i, seven.best(i), "best(" + i + "), 7 alike");
        due(15 * 21, seven.best(-1), "best(-1), 7 alike");
        // In two rooms 0 and 2 begin at 0, 1 behind 2.
        EveryTwentyMinutes rooms = hall("r2;c09000;c09000;c10000;");
        due(10, rooms.best(-1), "best(-1), two rooms");
        due(2, rooms.best(1), "best(1), two rooms");
        due(1, rooms.best(2), "best(2), two rooms");
        due(0, new EveryTwentyMinutes().best(-1), "best(-1), nobody");
    }

    private static void pullAndSwap() {
        promise(19);
        EveryTwentyMinutes x = hall("c09000;c10000;");
        due(1, x.pull(), "pull()");
        promise(38);
        due(1, x.swap(), "swap()");
        x.pulls(1);
        due(-9, x.swap(), "swap(), none is less");
        promise(19);
        due(-9, x.pull(), "pull(), none is less");
        due(1, x.order(0), "order(0), it is in mind");
        // 24 and then two of 10: late 24 and 34; 1 or 2 first: 10 and 34 or so.
        due(0, hall("c10000;c09000;f1;").pull(), "pull(), 0");
        EveryTwentyMinutes y = hall("c09000;c10000;c10000;");
        due(1, y.pull(), "pull(), of several the least");
        promise(38);
        // 0, 1, 2 by LASTS 24, 10, 10: late 58; 1 first 44; 2, 1, 0: 10 and 20: 30.
        due(2, y.swap(), "swap(), 0 and 2");
        due(12, hall("c00000;c09100;c10100;").swap(), "swap(), 1 and 2");
        due(1, hall("c09000;c10000;c09200;c10200;").swap(), "swap(), of several the first");
        y.pulls(2);
        y.weds(1);
        // 2 is WED; 0, 1 are there: 10 and 34; changed 10 and 20.
        due(1, y.swap(), "swap(), of those not WED");
        promise(19);
        due(1, y.pull(), "pull(), of those not WED");
        y.weds(2);
        due(-9, y.pull(), "pull(), all are WED");
    }

    private static void bestSlack() {
        promise(20);
        EveryTwentyMinutes x = hall("c09000;c09000;");
        due(3, x.bestSlack(0), "bestSlack(0)");
        due(27, x.bestSlack(1), "bestSlack(1), 24 and 3");
        due(-2, x.bestSlack(2), "bestSlack(2)");
        due(-2, x.bestSlack(-1), "bestSlack(-1)");
        due(0, x.count(5), "count(5), it is in mind");
        x.slack(9);
        due(27, x.bestSlack(1), "bestSlack(1), whatever SLACK is");
        due(0, hall("c00000;c00100;").bestSlack(0), "bestSlack(0), of several the least");
        // Three twos MEET; with 3 it is 3 and 6 and 9.
        due(15, hall("c00000;c00015;c00030;c00045;").bestSlack(1), "bestSlack(1), 5 for each two");
        // Till 8 the third ENDS where the first BEGINS (54), or 2 behind it; with 9 it is 3 LATE.
        due(9, hall("r2;c54052;c09001;c08031;").bestSlack(0), "bestSlack(0), the greatest");
        due(5, hall("r2;c54052;c09001;c08031;").bestSlack(1), "bestSlack(1)");
        due(0, hall("r2;c54053;c09001;c08031;").bestSlack(0), "bestSlack(0), with 10 it would be less");
        due(0, hall("c00000;c00100;").bestSlack(1), "bestSlack(1)");
    }

    private static void rest() {
        promise(21);
        EveryTwentyMinutes x = hall("c09000;c09024;c09048;c09072;c09096;c09140;c09164;");
        due(2, x.all(0), "all(0)");
        due(5, x.rest(), "rest()");
        x.weds(2);
        due(3, x.rest(), "rest(), two are WED");
        x.weds(3);
        due(0, x.rest(), "rest(), ahead of the first");
        due(30, x.count(4), "count(4), it is in mind");
        x.weds(2);
        due(-9, x.rest(), "rest(), all are WED");
        due(-9, hall("c09000;c09000;").rest(), "rest(), none is less");
        due(5, hall("c09000;c09024;c09048;c09072;c09096;c09130;c09154;").rest(), "rest(), 10 MINUTES and no more");
        due(-9, hall("c09000;c09024;c09048;c09072;c09096;c09129;c09153;").rest(), "rest(), 10 MINUTES and no less");
        due(4, hall("c29000;c29032;c29064;c29096;c09150;c09190;c09215;").rest(), "rest(), 4 or 5: the least");
    }

    private static void saved() {
        promise(22);
        EveryTwentyMinutes x = new EveryTwentyMinutes();
        due(1000000003, x.saved(), "saved()");
        due(1, x.count(13), "count(13)");
        x.rooms(2);
        due(1000000003, x.saved(), "saved(), nobody in two");
        EveryTwentyMinutes y = hall("c09000;c09000;c09000;");
        due(48, y.saved(), "saved(), 24 and 48 less 24");
        y.weds(1);
        due(24, y.saved(), "saved(), 24 and 48 less 24 and 24");
        y.rooms(2);
        due(0, y.saved(), "saved(), there are two");
    }

    private static void can() {
        promise(23);
        EveryTwentyMinutes x = new EveryTwentyMinutes();
        due(19, x.can(0, 0, 15), "can(0, 0, 15)");
        due(18, x.can(0, 0, 14), "can(0, 0, 14)");
        due(16, x.can(0, 0, 8), "can(0, 0, 8)");
        due(0, x.can(0, 0, 7), "can(0, 0, 7)");
        due(27, x.can(0, 0, 22), "can(0, 0, 22)");
        due(31, x.can(0, 0, 23), "can(0, 0, 23)");
        due(63, x.can(0, 0, 28), "can(0, 0, 28)");
        due(63, x.can(9, 240, 999), "can(9, 240, 999)");
        due(-4, x.can(-1, 241, 0), "can(-1, 241, 0)");
        due(-4, x.can(0, -1, 1000), "can(0, -1, 1000)");
        due(-4, x.can(10, 0, -1), "can(10, 0, -1)");
        due(-6, x.can(10, 0, 0), "can(10, 0, 0)");
        due(-6, x.can(0, 241, 0), "can(0, 241, 0)");
        due(-6, x.can(0, 0, 1000), "can(0, 0, 1000)");
        due(0, x.count(0), "count(0), it is in mind");
        due(16, hall(THREE).can(0, 0, 58), "can(0, 0, 58), behind the others");
        EveryTwentyMinutes s = hall(SEVEN);
        due(0, s.can(0, 0, 999), "can(0, 0, 999), 7 are there");
        due(-6, s.can(10, 0, 0), "can(10, 0, 0), 7 are there");
    }

    private static void fountain() {
        promise(24);
        EveryTwentyMinutes x = hall(THREE);
        due(31, x.fountain(0), "fountain(0)");
        due(40, x.fountain(1), "fountain(1)");
        due(52, x.fountain(2), "fountain(2)");
        due(-1, x.fountain(3), "fountain(3)");
        due(-1, x.fountain(-1), "fountain(-1)");
        // ENDS 36 and 37; from 38 on 12 minutes, from 39 on, but at 50.
        EveryTwentyMinutes y = hall("r2;c29000;c00022;");
        due(38, y.fountain(0), "fountain(0)");
        due(50, y.fountain(1), "fountain(1)");
        promise(25);
        due(1, y.fountains(0), "fountains(0)");
        due(53, y.fountains(1), "fountains(1)");
        due(55, x.fountains(1), "fountains(1)");
        due(0, x.fountains(0), "fountains(0), nobody waits: of several the least");
        due(-2, y.fountains(2), "fountains(2)");
        due(-2, y.fountains(-1), "fountains(-1)");
        due(-9, new EveryTwentyMinutes().fountains(0), "fountains(0), nobody");
        due(0, new EveryTwentyMinutes().fountains(1), "fountains(1), nobody");
        promise(24);
        EveryTwentyMinutes z = hall("r2;c00000;c00000;f1;");
        due(17, z.fountain(0), "fountain(0), of several the least");
        due(20, z.fountain(1), "fountain(1)");
        // ENDS 24 (1), 39 (0): by ENDS, not by numbers.
        due(41, hall("c00000;c09000;f1;").fountain(0), "fountain(0)");
        promise(25);
        // BLOTTED 7 poses 10 minutes.
        due(130, hall("c57080;").fountains(1), "fountains(1), ENDS 118");
    }

    private static void inside() {
        promise(26);
        EveryTwentyMinutes x = hall(THREE);
        int[] minutes = {0, 1, 2, 28, 29, 37, 38, 39, 40, 49, 50, 999};
        int[] guests = {0, 0, 16, 16, 3, 3, 0, 0, 2, 2, 0, 0};
        for (int i = 0; i < minutes.length; i++) due(guests[i], x.inside(minutes[i]), "inside(" + minutes[i] + ")");
        due(-4, x.inside(-1), "inside(-1)");
        due(-6, x.inside(1000), "inside(1000)");
        due(8, hall("r2;c00000;c00010;").inside(12), "inside(12), together");
        promise(27);
        due(2, x.crowded(), "crowded()");
        due(106, hall(SEVEN).crowded(), "crowded()");
        due(10, hall("r2;c00000;c00010;").crowded(), "crowded(), together");
        due(0, hall("c00000;c00100;").crowded(), "crowded(), from 0 on");
        due(0, new EveryTwentyMinutes().crowded(), "crowded(), nobody");
        due(30, hall("c00030;c00100;").crowded(), "crowded(), the first");
    }

    private static void price() {
        promise(28);
        EveryTwentyMinutes x = hall(THREE);
        x.weds(1);
        int[] minutes = {0, 10, 11, 19, 20, 21, 59, 60, 999};
        int[] prices = {30, 30, 40, 40, 30, 40, 30, 20, 20};
        for (int i = 0; i < minutes.length; i++) due(prices[i], x.price(minutes[i]), "price(" + minutes[i] + ")");
        due(-4, x.price(-1), "price(-1)");
        due(-6, x.price(1000), "price(1000)");
    }

    private static void odds() {
        promise(29);
        EveryTwentyMinutes x = hall(THREE);
        long[][] asked = {{3, 2, 50, 1, 8}, {3, 3, 50, 8, 27}, {3, 2, 53, 3, 8}, {3, 3, 53, 16, 27}, {1, 20, 50, 19, 20}, {0, 2, 50, 1, 1}, {0, 2, 49, 0, 1},
            {3, 20, 49, 0, 1}, {7, 2, 50, 1, 8}, {3, 2, 999, 1, 1}, {2, 2, 50, 1, 4}, {3, 4, 54, 45, 64}};
        for (long[] a : asked) {
            String call = "odds(" + a[0] + ", " + a[1] + ", " + a[2];
            due(a[3], x.odds((int) a[0], (int) a[1], (int) a[2], 0), call + ", 0)");
            due(a[4], x.odds((int) a[0], (int) a[1], (int) a[2], 1), call + ", 1)");
        }
        long below = 4000000000000000004L;
        due(below, x.odds(-1, 21, 1000, 2), "odds(-1, 21, 1000, 2)");
        due(below, x.odds(8, 1, 0, 0), "odds(8, 1, 0, 0)");
        due(below, x.odds(0, 21, -1, 0), "odds(0, 21, -1, 0)");
        due(below + 2, x.odds(8, 2, 0, 2), "odds(8, 2, 0, 2)");
        due(below + 2, x.odds(0, 21, 0, 0), "odds(0, 21, 0, 0)");
        due(below + 2, x.odds(0, 2, 1000, 0), "odds(0, 2, 1000, 0)");
        due(below - 2, x.odds(0, 2, 0, 2), "odds(0, 2, 0, 2)");
        due(below - 2, x.odds(0, 2, 0, -1), "odds(0, 2, 0, -1)");
        due(3, x.count(14), "count(14)");
        due(3, x.count(16), "count(16)");
        due(2, x.count(12), "count(12)");
        EveryTwentyMinutes s = hall(SEVEN);
        due(1, s.odds(7, 20, 999, 0), "odds(7, 20, 999, 0)");
        due(19L * 19 * 19 * 19 * 19 * 19 * 19, s.odds(7, 20, 200, 0), "odds(7, 20, 200, 0), nobody longer");
        due(1280000000L, s.odds(7, 20, 200, 1), "odds(7, 20, 200, 1)");
    }

    private static void two() {
        promise(30);
        EveryTwentyMinutes x = hall("c09000;c09000;");
        due(-9, x.two(0, 1), "two(0, 1)");
        due(10, x.two(1, 0), "two(1, 0)");
        due(0, hall("c00000;c00100;").two(0, 1), "two(0, 1)");
        due(11, hall("c00000;c00000;c09000;f2;").two(0, 1), "two(0, 1)");
        due(1, hall("c00200;c00000;c09000;f2;").two(0, 1), "two(0, 1)");
        // Asking costs 4: who is 4 late need not ask, who is 5 late does.
        due(0, hall("c10000;c00006;").two(1, 0), "two(1, 0), 4 late");
        due(0, hall("c10000;c00006;").two(0, 1), "two(0, 1), 4 late");
        due(10, hall("c10000;c00005;").two(1, 0), "two(1, 0), 5 late");
        due(-1, x.two(0, 0), "two(0, 0)");
        due(-1, x.two(0, 2), "two(0, 2)");
        due(-1, x.two(-1, 0), "two(-1, 0)");
        x.weds(1);
        due(-3, x.two(0, 1), "two(0, 1)");
        due(-3, x.two(1, 0), "two(1, 0)");
        due(-1, x.two(0, 0), "two(0, 0), WED");
        due(4, x.count(11), "count(11)");
    }

    private static void whatWas() {
        promise(31);
        EveryTwentyMinutes x = hall(THREE);
        int[] nothingTold = {63, 1023, 241, 0};
        for (int w = 0; w < 4; w++) due(nothingTold[w], x.whatWas(0, w), "whatWas(0, " + w + "), an empty ROW");
        row(x, 29, 38, 50);
        int[][] of = {{4, 16, 1, 0}, {16, 12, 50, 0}, {2, 3, 1, 40}};
        for (int c = 0; c < 3; c++) for (int w = 0; w < 4; w++) due(of[c][w], x.whatWas(c, w), "whatWas(" + c + ", " + w + ")");
        due(3, x.count(7), "count(7), it stays");
        due(-1, x.whatWas(3, 0), "whatWas(3, 0)");
        due(-1, x.whatWas(-1, 4), "whatWas(-1, 4)");
        due(-2, x.whatWas(0, 4), "whatWas(0, 4)");
        due(-2, x.whatWas(0, -1), "whatWas(0, -1)");
        x.row(60);
        int[] none = {0, 0, 0, -9};
        for (int w = 0; w < 4; w++) due(none[w], x.whatWas(0, w), "whatWas(0, " + w + "), one too many");
        row(x, 29);
        due(63, x.whatWas(1, 0), "whatWas(1, 0), it is not told of");
        row(x, 264);
        due(1, x.whatWas(0, 2), "whatWas(0, 2), 235 and 29");
        due(235, x.whatWas(0, 3), "whatWas(0, 3)");
        x.weds(1);
        row(x, 29);
        for (int w = 0; w < 4; w++) due(nothingTold[w], x.whatWas(0, w), "whatWas(0, " + w + "), WED: as it was");
        due(2, x.coupleOf(0, 0), "coupleOf(0, 0), it is in mind");
    }

    private static void longest() {
        promise(32);
        EveryTwentyMinutes x = hall(THREE);
        due(0, x.longest(0), "longest(0)");
        due(0, x.longest(1), "longest(1)");
        due(1, x.longest(2), "longest(2)");
        x.weds(1);
        due(0, x.longest(0), "longest(0), WED too");
        due(1, x.longest(1), "longest(1), not WED");
        x.weds(2);
        due(-9, x.longest(1), "longest(1), all WED");
        due(1, x.longest(2), "longest(2), WED too");
        due(-2, x.longest(3), "longest(3)");
        due(-2, x.longest(-1), "longest(-1)");
        EveryTwentyMinutes y = hall("c00000;c01014;c31029;");
        due(1, y.longest(0), "longest(0), of several the least");
        due(1, y.longest(1), "longest(1), of several the least");
        due(1, y.longest(2), "longest(2), 14 and 15 apart");
    }

    private static void mean() {
        promise(33);
        EveryTwentyMinutes x = hall(THREE);
        due(2, x.mean(0), "mean(0)");
        due(3, x.mean(1), "mean(1)");
        due(481, hall(SEVEN).mean(0), "mean(0)");
        due(7, hall(SEVEN).mean(1), "mean(1)");
        EveryTwentyMinutes y = hall("c09000;c09000;");
        due(12, y.mean(0), "mean(0), lowest terms");
        due(1, y.mean(1), "mean(1), lowest terms");
        due(4000000000000000002L, y.mean(2), "mean(2)");
        due(4000000000000000002L, y.mean(-1), "mean(-1)");
        due(2, y.count(12), "count(12)");
        EveryTwentyMinutes one = hall("c00000;b05;");
        due(5, one.mean(0), "mean(0), one");
        due(1, one.mean(1), "mean(1), one");
        due(0, hall("c00000;c00100;").mean(0), "mean(0)");
        due(1, hall("c00000;c00100;").mean(1), "mean(1)");
        due(0, new EveryTwentyMinutes().mean(0), "mean(0), nobody");
        due(1, new EveryTwentyMinutes().mean(1), "mean(1), nobody");
    }

    private static void earlyWorstIdleSpan() {
        EveryTwentyMinutes x = hall(THREE);
        EveryTwentyMinutes s = hall(SEVEN);
        EveryTwentyMinutes none = new EveryTwentyMinutes();
        promise(34);
        due(2, x.early(), "early()");
        due(0, s.early(), "early()");
        due(5, hall("c40100;c00200;c40240;").early(), "early(), 80 and 220");
        due(0, none.early(), "early(), nobody");
        x.weds(2);
        due(2, x.early(), "early(), WED");
        promise(35);
        due(0, x.worst(), "worst()");
        due(2, s.worst(), "worst()");
        due(-9, hall("c40100;c00200;").worst(), "worst(), nobody is");
        due(-9, none.worst(), "worst(), nobody");
        due(2, hall("r2;c00000;c30000;c30000;").worst(), "worst(), 7 and 15");
        due(0, hall("r2;c30000;c30000;").worst(), "worst(), of several the least");
        due(0, hall("c00000;b01;").worst(), "worst(), 1 late");
        promise(36);
        due(4, x.idle(), "idle()");
        due(63, s.idle(), "idle()");
        due(0, none.idle(), "idle(), nobody");
        due(0, hall("r2;c00000;c00010;").idle(), "idle()");
        promise(37);
        due(19, x.span(), "span()");
        due(97, s.span(), "span()");
        due(0, none.span(), "span(), nobody");
        due(1, hall("c00000;b01;").span(), "span(), one");
        due(0, hall("c00000;c00100;").span(), "span()");
    }

    private static void turned() {
        promise(39);
        due(10, hall("c09000;c10000;").turned(), "turned()");
        due(19, hall("r2;" + THREE).turned(), "turned()");
        due(0, new EveryTwentyMinutes().turned(), "turned(), nobody");
        EveryTwentyMinutes x = hall("c09000;c09000;c10000;");
        x.weds(1);
        due(24 + 34, x.turned(), "turned(), one WED: 24 for 2, 34 for 1");
        due(1, x.order(0), "order(0), it is in mind");
    }

    private static void shift() {
        promise(40);
        due(0, new EveryTwentyMinutes().shift(), "shift(), nobody");
        EveryTwentyMinutes x = hall("c00000;");
        due(0, x.shift(), "shift()");
        x.rests(20);
        due(20, x.shift(), "shift()");
        due(0, x.coupleOf(0, 2), "coupleOf(0, 2), it is in mind");
        x.rests(30);
        x.rests(10);
        due(60, x.shift(), "shift(), the most");
        x.rests(1);
        due(-9, x.shift(), "shift(), 61");
        due(-9, hall("c30000;").shift(), "shift(), LATE ever");
        due(0, hall("c21000;").shift(), "shift(), LONG 1");
        due(-9, hall("c22000;").shift(), "shift(), LONG 2");
        EveryTwentyMinutes y = hall("c30000;c00030;");
        y.weds(1);
        due(0, y.shift(), "shift(), who is WED may be LATE");
        EveryTwentyMinutes z = hall("c00240;");
        free(z, 250);
        due(10, z.shift(), "shift(), AT over 240");
        due(-9, hall("c00000;c00000;").shift(), "shift(), both the same");
    }

    private static void rowAndJudge() {
        promise(41);
        EveryTwentyMinutes x = hall(THREE);
        due(-4, x.row(-1), "row(-1)");
        due(-6, x.row(1000), "row(1000)");
        due(1, x.row(0), "row(0)");
        due(2, x.row(999), "row(999)");
        for (int i = 3; i <= 12; i++) due(i, x.row(5), "row(5)");
        due(-6, x.row(5), "row(5), the 13th");
        due(-4, x.row(-1), "row(-1), full");
        promise(43);
        due(12, x.clear(), "clear()");
        due(0, x.clear(), "clear()");
        due(0, x.count(7), "count(7)");
        promise(42);
        due(-9, x.judge(), "judge(), none");
        row(x, 2, 29, 40);
        due(-9, x.judge(), "judge(), all is so");
        due(0, x.count(7), "count(7)");
        row(x, 2, 30, 41);
        due(1, x.judge(), "judge(), the first");
        due(0, x.count(7), "count(7)");
        row(x, 2, 29, 40, 0);
        due(3, x.judge(), "judge(), none there");
        row(x, 3);
        due(0, x.judge(), "judge()");
        x.row(0);
        x.row(0);
        due(0, x.judge(), "judge()");
    }

    private static void lots() {
        promise(44);
        // From 0 the draws below 10 are 0, 8, 8, 7.
        EveryTwentyMinutes x = hall("c09000;c09000;");
        due(15, x.lots(1, 0, 0), "lots(1, 0, 0)");
        due(38, x.lots(2, 0, 0), "lots(2, 0, 0), 15 and 23");
        due(2, x.lots(2, 0, 1), "lots(2, 0, 1)");
        due(24, x.all(0), "all(0), it is in mind");
        due(-4, x.lots(0, 0, 2), "lots(0, 0, 2)");
        due(-6, x.lots(21, 0, 2), "lots(21, 0, 2)");
        due(-2, x.lots(1, 0, 2), "lots(1, 0, 2)");
        due(-2, x.lots(20, -1, -1), "lots(20, -1, -1)");
        x.pulls(1);
        due(23, x.lots(1, 0, 0), "lots(1, 0, 0), drawn by numbers, 8 is first");
        x.weds(1);
        due(24, x.lots(1, 0, 0), "lots(1, 0, 0), who is WED is as it was");
        due(0, new EveryTwentyMinutes().lots(20, Integer.MIN_VALUE, 0), "lots(20, least, 0)");
    }

    private static void image() {
        promise(45);
        EveryTwentyMinutes x = hall(THREE);
        x.weds(1);
        x.slack(4);
        due(2, x.image(), "image()");
        x.weds(2);
        x.rooms(2);
        x.couple(0, 0, 0);
        x.slack(9);
        x.feed('s');
        x.row(7);
        x.weds(9);
        promise(46);
        due(2, x.restore(), "restore()");
        due(3, x.count(0), "count(0)");
        due(1, x.count(2), "count(2)");
        due(1, x.count(3), "count(3)");
        due(6, x.count(4), "count(4)");
        due(4, x.count(5), "count(5)");
        due(1, x.count(6), "count(6), letters stay");
        due(1, x.count(7), "count(7), the ROW stays");
        due(0, x.count(8), "count(8)");
        due(1, x.count(16), "count(16), REFUSALS stay");
        due(29, x.free(0), "free(0)");
        due(1, x.order(0), "order(0)");
        due(2, x.when(0, 0), "when(0, 0)");
        x.weds(2);
        due(2, x.restore(), "restore(), again");
        promise(45);
        x.weds(1);
        due(1, x.image(), "image(), another");
        promise(46);
        x.weds(1);
        due(1, x.restore(), "restore()");
        EveryTwentyMinutes y = new EveryTwentyMinutes();
        due(-3, y.restore(), "restore(), there is none");
        due(0, y.image() + y.restore(), "restore(), of nobody");
        due(1, y.count(13), "count(13)");
    }

    private static void count() {
        promise(47);
        EveryTwentyMinutes x = hall(SEVEN);
        x.rooms(2);
        x.weds(2);
        x.feed('c');
        x.row(1);
        x.row(2);
        x.coupleOf(9, 0);
        for (int i = 0; i < 2; i++) x.all(5);
        for (int i = 0; i < 3; i++) x.weds(6);
        for (int i = 0; i < 4; i++) x.feed(-1);
        for (int i = 0; i < 6; i++) x.feed(256);
        int[] counts = {7, 5, 9, 2, 8, 2, 1, 2, 1, -9, -9, 1, 2, 3, 4, 0, 6, -9, -9};
        for (int w = 0; w < counts.length; w++) due(counts[w], x.count(w), "count(" + w + ")");
        due(-9, x.count(-1), "count(-1)");
        due(-9, x.count(Integer.MAX_VALUE), "count(most)");
        due(2, x.count(12), "count(12), another what is no REFUSAL");
    }
}
