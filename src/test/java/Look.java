import java.util.ArrayList;
import java.util.List;

/** Looks at all that can be seen of an object, to find whether a call has changed anything. */
final class Look {
    private static final int COUPLES = 7;
    private static final int MOST_BACK = 8;

    /** How often each of the REFUSALS -1 .. -6 was. */
    static List<Long> refusals(Calls x) {
        List<Long> l = new ArrayList<>();
        for (int what = 11; what <= 16; what++) l.add(x.answer("count", what));
        return l;
    }

    /** All but REFUSALS, letters looked at by telling them, the image by restoring it. */
    static List<Long> all(Calls x) {
        List<Long> l = new ArrayList<>();
        for (int what = 6; what <= 8; what++) l.add(x.answer("count", what));
        hall(x, l);
        for (int c = 0; c < COUPLES; c++) {
            for (int what = 0; what <= 2; what++) l.add(x.answer("coupleOf", c, what));
            for (int what = 1; what <= 3; what++) l.add(x.answer("when", c, what));
            for (int what = 0; what <= 2; what++) l.add(x.answer("whatWas", c, what));
        }
        l.add(x.answer("judge"));
        l.add(x.answer("hall"));
        hall(x, l);
        l.add(x.answer("restore"));
        hall(x, l);
        return l;
    }

    /** All that can be taken back, one behind the other. */
    static List<Long> back(Calls x) {
        List<Long> l = new ArrayList<>();
        for (int i = 0; i <= MOST_BACK; i++) {
            l.add(x.answer("back"));
            hall(x, l);
        }
        return l;
    }

    private static void hall(Calls x, List<Long> l) {
        for (int what = 0; what <= 5; what++) l.add(x.answer("count", what));
        for (int i = 0; i < COUPLES; i++) l.add(x.answer("order", i));
        for (int room = 0; room <= 1; room++) l.add(x.answer("free", room));
        for (int c = 0; c < COUPLES; c++) l.add(x.answer("when", c, 0));
    }
}
