import java.lang.reflect.Method;
import java.util.Random;
import java.util.concurrent.atomic.AtomicBoolean;

/**
 * LANGUAGE.md, rules 7 and 8: settling ends, far below the bound of its loop and within the places
 * of the link. Whether settle itself stops in time no answer shows, so that is waited for.
 */
public final class SettlingEndsTest {
    private static final int PORTS = 4;
    private static final int TICKS_AT_MOST = 1000;
    // Thousands of settlings take less than a second; if each went on to its bound, many minutes.
    private static final int SETTLINGS = 3000;
    private static final long PATIENCE_MILLIS = 20000;
    private static final Due t = new Due();

    public static void main(String[] args) throws ReflectiveOperationException, InterruptedException {
        // First, and ending the test if it fails: the others would take hours then.
        settleStopsWhenItIsQuiet();
        ticksStayFarBelowTheBound();
        nothingIsLeftUnderWay();
        fullLinkLosesAPiece();
        t.end();
    }

    private static void settleStopsWhenItIsQuiet() throws InterruptedException {
        t.about("rule 8: no settling goes on to the bound of its loop");
        stopsInTime("nothing waits", new LinkStack());
        stopsInTime("inboxes full", withMessages(8));
        LinkStack x = withMessages(8);
        x.restart(0);
        x.restart(1);
        x.disturb(0, 0, 3);
        stopsInTime("inboxes full, started anew", x);
        stopsInTime("all arrived", withMessages(2));
        for (int kind = 0; kind < 4; kind++) {
            stopsInTimeWhenOneArrives(kind);
        }
        endsInTime("heavily disturbed", () -> {
            for (int seed = 0; seed < SETTLINGS; seed++) {
                LinkStack disturbed = heavilyDisturbed(new Random(seed));
                disturbed.settle();
            }
        });
    }

    private static LinkStack withMessages(int count) {
        LinkStack x = new LinkStack();
        for (int port = 0; port < PORTS; port++) {
            for (int n = 0; n < count; n++) {
                Messages.sendFrom(x, port, 1, n);
            }
        }
        return x;
    }

    private static void stopsInTime(String state, LinkStack x) throws InterruptedException {
        endsInTime(state, () -> {
            for (int n = 0; n < SETTLINGS; n++) {
                x.settle();
            }
        });
    }

    private static void stopsInTimeWhenOneArrives(int kind) throws InterruptedException {
        endsInTime("one arrives over a link disturbed by kind " + kind, () -> {
            LinkStack x = new LinkStack();
            for (int n = 0; n < SETTLINGS; n++) {
                x.post(n % 2, 1);
                x.disturb(n % 2, n % 3, kind);
                if (n % 5 == 0) {
                    x.restart(n / 5 % 2);
                }
                x.settle();
                x.take(3 - n % 2);
            }
        });
    }

    private static void endsInTime(String what, Runnable work) throws InterruptedException {
        AtomicBoolean ended = new AtomicBoolean();
        Thread worker = new Thread(() -> {
            work.run();
            ended.set(true);
        });
        worker.setDaemon(true);
        worker.start();
        worker.join(PATIENCE_MILLIS);
        t.due(what + ": ended in time", true, ended.get());
        if (!ended.get()) {
            t.end();
        }
    }

    /** The more the orders of both ends fall on pieces close together, the more lingers on the link. */
    private static LinkStack heavilyDisturbed(Random r) {
        LinkStack x = new LinkStack();
        int settledBefore = r.nextInt(3);
        for (int round = 0; round <= settledBefore; round++) {
            for (int port = 0; port < PORTS; port++) {
                int count = r.nextInt(4) == 0 ? r.nextInt(9) : 8;
                for (int n = 0; n < count; n++) {
                    Messages.sendFrom(x, port, r.nextInt(4), n);
                }
            }
            for (int n = r.nextInt(20); n > 0; n--) {
                x.take(r.nextInt(PORTS));
            }
            if (round < settledBefore) {
                x.settle();
            }
        }
        int reach = 1 + r.nextInt(16);
        int kinds = 1 + r.nextInt(15);
        for (int n = 0; n < 12; n++) {
            x.disturb(0, r.nextBoolean() ? n % reach : r.nextInt(reach), kindOf(r, kinds));
            x.disturb(1, r.nextBoolean() ? n % reach : r.nextInt(reach), kindOf(r, kinds));
        }
        if (r.nextBoolean()) {
            x.restart(r.nextInt(2));
        }
        return x;
    }

    private static int kindOf(Random r, int kinds) {
        int kind = r.nextInt(4);
        while (((kinds >> kind) & 1) == 0) {
            kind = r.nextInt(4);
        }
        return kind;
    }

    private static void ticksStayFarBelowTheBound() throws ReflectiveOperationException {
        t.about("rule 8: the bound stands far above what any run can need");
        Method begin = Inside.method("tryFullInboxesAgain");
        Method deliver = Inside.method("deliverDuePieces");
        Method send = Inside.method("sendDuePieces");
        Method quiet = Inside.method("isQuiet");
        t.due("bound", true, Inside.constant("TICK_LIMIT") >= 1000 * TICKS_AT_MOST);
        int places = Inside.constant("UNDER_WAY");
        for (int seed = 0; seed < SETTLINGS; seed++) {
            LinkStack x = heavilyDisturbed(new Random(seed));
            begin.invoke(x);
            int ticks = 0;
            int most = 0;
            do {
                deliver.invoke(x);
                send.invoke(x);
                most = Math.max(most, Inside.underWay(x));
                ticks++;
            } while (ticks <= TICKS_AT_MOST && !(boolean) quiet.invoke(x));
            t.due("seed " + seed + " is quiet in time", true, ticks <= TICKS_AT_MOST);
            t.due("seed " + seed + " leaves a place free", true, most < places);
            t.due("seed " + seed + " is settled", true, x.settled());
        }
    }

    private static void nothingIsLeftUnderWay() throws ReflectiveOperationException {
        t.about("no piece outlives a settling, so none can cross a restart");
        for (int seed = 0; seed < SETTLINGS; seed++) {
            LinkStack x = heavilyDisturbed(new Random(seed));
            x.settle();
            t.due("seed " + seed + ": under way", 0, Inside.underWay(x));
        }
    }

    /** No run of calls brings this about; but an index is to be looked at before it is used. */
    private static void fullLinkLosesAPiece() throws ReflectiveOperationException {
        t.about("rule 7: a link without a free place");
        LinkStack x = new LinkStack();
        int[] lengths = Inside.ints(x, "pieceLength");
        java.util.Arrays.fill(lengths, 6);
        Inside.field("newLength").setInt(x, 30);
        Inside.method("putUnderWay", int.class, int.class).invoke(x, 1, 1);
        for (int length : lengths) {
            t.due("a place that was taken", 6, length);
        }
    }
}
