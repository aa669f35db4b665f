import java.util.List;

/**
 * Two objects with the same calls behind them, one of them with one call more: whatever can be seen
 * of them has to be the same. Each look needs objects of its own, for many looks change what is seen.
 */
final class Twins {
    private static final int MOST_STATES = 14;
    private static final int MOST_CALLS = 512;

    private final List<Call> before;
    private final Call more;

    private Twins(List<Call> before, Call more) {
        this.before = before;
        this.more = more;
    }

    /** Tells what the call has changed, null if nothing. */
    static String difference(List<Call> before, Call more) {
        Twins twins = new Twins(before, more);
        String difference = twins.differenceOf("now, and the bills", x -> x.add(""));
        for (int k = 1; k <= MOST_STATES + 1 && difference == null; k++) {
            int times = k;
            difference = twins.differenceOf(k + " times undo()", x -> {
                for (int u = 0; u < times; u++) {
                    x.call("undo");
                }
                x.add("");
            });
        }
        for (int k = 0; k < 2 && difference == null; k++) {
            int slot = k;
            difference = twins.differenceOf("the slot " + slot, x -> {
                x.call("restore", slot);
                x.call("undo");
                x.add("");
            });
        }
        if (difference == null) {
            difference = twins.differenceOf("the length of the text", x -> x.call("clearText"));
        }
        return difference != null ? difference : twins.differenceOf("the axles of the text", Twins::recordAlone);
    }

    /** Makes room for the axles of the text, and records them. */
    private static void recordAlone(Look look) {
        look.call("set", 3, 60);
        for (int k = 0; k < 30 && look.axles() > 0; k++) {
            look.call("leave");
        }
        look.call("record");
        look.add("");
    }

    private interface Looking {
        void at(Look look);
    }

    private String differenceOf(String what, Looking looking) {
        String want = seen(null, looking);
        String got = seen(more, looking);
        return got.equals(want) ? null : what + ": " + got + ", due is " + want;
    }

    private String seen(Call extra, Looking looking) {
        AxleScale x = new AxleScale();
        for (Call c : before) {
            c.on(x);
        }
        if (extra != null) {
            extra.on(x);
        }
        Look look = new Look(x);
        looking.at(look);
        int calls = before.size() + 1 + look.calls;
        if (calls > MOST_CALLS) {
            throw new IllegalStateException("a run is too long to look behind it: " + calls);
        }
        return look.seen.toString();
    }

    /** What has been seen of one object. */
    private static final class Look {
        final AxleScale x;
        final StringBuilder seen = new StringBuilder();
        int calls = 0;

        Look(AxleScale x) {
            this.x = x;
        }

        void call(String name, long... numbers) {
            calls++;
            seen.append(new Call(name, numbers).on(x)).append(' ');
        }

        int axles() {
            calls++;
            return x.about(0);
        }

        /** The whole state; the bills come last, for a look at one without a train takes it away. */
        void add(String title) {
            seen.append(title).append('|');
            for (int what = 0; what <= 7; what++) {
                call("about", what);
            }
            for (int what = 0; what <= 3; what++) {
                call("setting", what);
            }
            int axles = axles();
            for (int i = 0; i < axles; i++) {
                call("axle", i, 0);
                call("axle", i, 1);
            }
            call("errorPosition");
            call("axlesTold");
            for (int t = 0; t < 30; t++) {
                call("bill", t, 0);
            }
        }
    }
}
