/**
 * All that can be seen of an object, as text, in parts: each part is read from an object of its own, so that
 * the calls that made the object and the calls that read the part stay together below 512.
 */
final class State {
    static final int PARTS = 10;
    /** No part takes more calls than this. */
    static final int MOST_CALLS = 160;
    private static final int SETTING = 0, SLOTS = 1, FIRST_IMAGE = 2, SECOND_IMAGE = 3, FIRST_ORDER = 4, NUMBERS = 9;

    private State() {
    }

    static String part(OrderMover x, int part) {
        StringBuilder seen = new StringBuilder();
        switch (part) {
            case SETTING:
                setting(x, seen);
                break;
            case SLOTS:
                slots(x, seen);
                break;
            case FIRST_IMAGE:
            case SECOND_IMAGE:
                note(seen, "goBack", x.goBack(part - FIRST_IMAGE));
                setting(x, seen);
                break;
            case NUMBERS:
                leastsAndRoots(x, seen);
                break;
            default:
                base(x, part - FIRST_ORDER, seen);
        }
        return seen.toString();
    }

    private static void note(StringBuilder seen, String name, int answer) {
        seen.append(' ').append(name).append(' ').append(answer);
    }

    private static void setting(OrderMover x, StringBuilder seen) {
        for (int what = 0; what <= 10; what++) {
            note(seen, "count", x.count(what));
        }
        for (int of = 0; of < 2; of++) {
            for (int i = 0; i < 3; i++) {
                for (int j = 0; j < 3; j++) {
                    note(seen, "get", x.get(of, i, j));
                }
            }
        }
    }

    private static void slots(OrderMover x, StringBuilder seen) {
        for (int s = 0; s < 4; s++) {
            note(seen, "size", x.size(s));
            note(seen, "order", x.kept(s, 0));
            note(seen, "weights", x.kept(s, 1));
            note(seen, "stands", x.stands(s));
            for (int k = 0; k < 8; k++) {
                for (int what = 0; what < 3; what++) {
                    note(seen, "term", x.term(s, k, what));
                }
            }
        }
    }

    private static void base(OrderMover x, int order, StringBuilder seen) {
        for (int what = 0; what < 3; what++) {
            note(seen, "base", x.base(order, what));
        }
        for (int k = 0; k < 4; k++) {
            for (int what = 0; what < 3; what++) {
                note(seen, "member", x.member(order, k, what));
            }
            for (int s = 0; s < 9; s++) {
                note(seen, "tail", x.tail(order, k, s));
            }
        }
        for (int s = 0; s < 9; s++) {
            note(seen, "i", x.stair(order, s, 0));
            note(seen, "j", x.stair(order, s, 1));
            note(seen, "x times", x.table(order, 0, s, s));
            note(seen, "y times", x.table(order, 1, s, s));
        }
    }

    private static void leastsAndRoots(OrderMover x, StringBuilder seen) {
        for (int v = 0; v < 2; v++) {
            for (int k = -1; k <= 9; k++) {
                note(seen, "least", x.least(v, k));
            }
        }
        for (int k = 0; k <= 9; k++) {
            note(seen, "x", x.root(k, 0));
            note(seen, "y", x.root(k, 1));
        }
    }
}
