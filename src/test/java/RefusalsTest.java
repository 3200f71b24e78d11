import java.lang.reflect.Array;
import java.lang.reflect.Field;
import java.lang.reflect.Modifier;
import java.util.ArrayList;
import java.util.List;
import java.util.function.ToIntFunction;

/** Promise 16: a test for each of its sentences, with every refused call in every kind of state. */
public final class RefusalsTest {
    private static final int BAD = LinkStack.BAD;
    private static final int FULL = LinkStack.FULL;
    private static final int FALSE = 0;
    private static final int PORTS = 4;
    private static final Due t = new Due();

    public static void main(String[] args) throws ReflectiveOperationException {
        refusedForANumber();
        refusedForWhatIsNotThere();
        refusedForALimit();
        manyRefusedCalls();
        nothingArrivesButBySettle();
        postOnlyPutsIntoTheWaitingList();
        emptyDraftIsPosted();
        emptyMessageTakesAPlace();
        t.end();
    }

    /** Alike at both ends and on both channels; gone is how many messages went through each list before. */
    private record State(int draft, int held, int waits, int gone, boolean disturbed) {
        LinkStack make() {
            LinkStack x = new LinkStack();
            for (int n = 0; n < gone; n++) {
                sendAll(x, n);
                x.settle();
                for (int inbox = 0; inbox < PORTS; inbox++) {
                    x.take(inbox);
                }
            }
            for (int n = 0; n < held; n++) {
                sendAll(x, n);
            }
            x.settle();
            for (int n = held; n < held + waits; n++) {
                sendAll(x, n);
            }
            for (int n = 0; n < draft; n++) {
                x.write(0, 100 + n);
                x.write(1, 200 + n);
            }
            if (disturbed) {
                x.disturb(0, 2, 0);
                x.disturb(1, 1, 3);
                x.restart(1);
            }
            return x;
        }

        private static void sendAll(LinkStack x, int n) {
            for (int port = 0; port < PORTS; port++) {
                Messages.sendFrom(x, port, lengthOf(n), 60 * port + n);
            }
        }

        /** Message 0 has a byte, so that there is one to miss. */
        static int lengthOf(int n) {
            return (n + 1) % 2;
        }
    }

    private record Refusal(String name, int answer, ToIntFunction<LinkStack> call) {
    }

    private static List<State> states() {
        List<State> states = new ArrayList<>();
        int[][] sizes = {{0, 0, 0}, {1, 1, 1}, {24, 0, 0}, {2, 0, 8}, {0, 5, 0}, {2, 5, 3}, {24, 4, 7}, {24, 5, 8}};
        for (int[] size : sizes) {
            for (int gone = 0; gone <= 4; gone += 4) {
                states.add(new State(size[0], size[1], size[2], gone, gone > 0));
            }
        }
        return states;
    }

    private static void refusedForANumber() throws ReflectiveOperationException {
        t.about("16: A call that is refused because a number is not as said there changes nothing");
        for (State state : states()) {
            changeNothing(state, forANumber());
        }
    }

    private static List<Refusal> forANumber() {
        List<Refusal> list = new ArrayList<>();
        for (int w : Messages.outside(1)) {
            list.add(new Refusal("write(" + w + ", 0)", BAD, x -> x.write(w, 0)));
            list.add(new Refusal("wipe(" + w + ")", BAD, x -> x.wipe(w)));
            list.add(new Refusal("post(" + w + ", 0)", BAD, x -> x.post(w, 0)));
            list.add(new Refusal("post(1, " + w + ")", BAD, x -> x.post(1, w)));
            list.add(new Refusal("disturb(" + w + ", 0, 0)", FALSE, x -> x.disturb(w, 0, 0) ? 1 : 0));
            list.add(new Refusal("restart(" + w + ")", FALSE, x -> x.restart(w) ? 1 : 0));
            list.add(new Refusal("waiting(" + w + ", 1)", BAD, x -> x.waiting(w, 1)));
            list.add(new Refusal("waiting(0, " + w + ")", BAD, x -> x.waiting(0, w)));
            list.add(new Refusal("draft(" + w + ")", BAD, x -> x.draft(w)));
        }
        for (int w : Messages.outside(255)) {
            list.add(new Refusal("write(0, " + w + ")", BAD, x -> x.write(0, w)));
            list.add(new Refusal("write(1, " + w + ")", BAD, x -> x.write(1, w)));
        }
        for (int w : Messages.outside(15)) {
            list.add(new Refusal("disturb(0, " + w + ", 0)", FALSE, x -> x.disturb(0, w, 0) ? 1 : 0));
        }
        for (int w : Messages.outside(3)) {
            list.add(new Refusal("disturb(1, 0, " + w + ")", FALSE, x -> x.disturb(1, 0, w) ? 1 : 0));
            list.add(new Refusal("arrived(" + w + ")", BAD, x -> x.arrived(w)));
            list.add(new Refusal("length(" + w + ", 0)", BAD, x -> x.length(w, 0)));
            list.add(new Refusal("byteAt(" + w + ", 0, 0)", BAD, x -> x.byteAt(w, 0, 0)));
            list.add(new Refusal("take(" + w + ")", BAD, x -> x.take(w)));
            list.add(new Refusal("total(" + w + ")", BAD, x -> x.total(w)));
        }
        return list;
    }

    private static void refusedForWhatIsNotThere() throws ReflectiveOperationException {
        t.about("16: A call that is refused because something is not there changes nothing");
        for (State state : states()) {
            for (int inbox = 0; inbox < PORTS; inbox++) {
                changeNothing(state, forWhatIsNotThere(state, inbox));
            }
        }
    }

    private static List<Refusal> forWhatIsNotThere(State state, int inbox) {
        List<Refusal> list = new ArrayList<>();
        int held = state.held();
        if (held == 0) {
            list.add(new Refusal("take(" + inbox + ")", BAD, x -> x.take(inbox)));
        }
        for (int i : new int[] {-1, held, 5, 6}) {
            list.add(new Refusal("length(" + inbox + ", " + i + ")", BAD, x -> x.length(inbox, i)));
            list.add(new Refusal("byteAt(" + inbox + ", " + i + ", 0)", BAD, x -> x.byteAt(inbox, i, 0)));
        }
        for (int k : new int[] {-1, 1, 23, 24}) {
            list.add(new Refusal("byteAt(" + inbox + ", 0, " + k + ")", BAD, x -> x.byteAt(inbox, 0, k)));
        }
        return list;
    }

    private static void refusedForALimit() throws ReflectiveOperationException {
        t.about("16: A call that is refused because a limit is reached changes nothing");
        for (State state : states()) {
            for (int e = 0; e < 2; e++) {
                changeNothing(state, forALimit(state, e));
            }
        }
    }

    private static List<Refusal> forALimit(State state, int e) {
        List<Refusal> list = new ArrayList<>();
        if (state.draft() == 24) {
            list.add(new Refusal("write(" + e + ", 0)", FULL, x -> x.write(e, 0)));
            list.add(new Refusal("write(" + e + ", 255)", FULL, x -> x.write(e, 255)));
        }
        if (state.waits() == 8) {
            list.add(new Refusal("post(" + e + ", 0)", FULL, x -> x.post(e, 0)));
            list.add(new Refusal("post(" + e + ", 1)", FULL, x -> x.post(e, 1)));
        }
        return list;
    }

    /** Beside a twin that is not asked: what is held inside stays, and so does all that ever comes out. */
    private static void changeNothing(State state, List<Refusal> refusals) throws ReflectiveOperationException {
        LinkStack twin = state.make();
        String twinInside = inside(twin);
        String twinDrained = drained(twin);
        for (Refusal refusal : refusals) {
            LinkStack asked = state.make();
            String text = refusal.name() + " in " + state;
            t.due(text, refusal.answer(), refusal.call().applyAsInt(asked));
            t.due(text + ": what is held inside", twinInside, inside(asked));
            t.due(text + ": what comes out", twinDrained, drained(asked));
        }
    }

    private static void manyRefusedCalls() {
        t.about("16: A call that is refused changes nothing: many of them in turn");
        for (State state : states()) {
            LinkStack asked = state.make();
            for (Refusal refusal : forANumber().subList(0, 60)) {
                t.due(refusal.name(), refusal.answer(), refusal.call().applyAsInt(asked));
            }
            String due = drained(state.make());
            t.due("what comes out of " + state, due, drained(asked));
        }
    }

    private static String inside(LinkStack x) throws ReflectiveOperationException {
        StringBuilder text = new StringBuilder();
        for (Field field : LinkStack.class.getDeclaredFields()) {
            if (!Modifier.isStatic(field.getModifiers())) {
                field.setAccessible(true);
                Object value = field.get(x);
                text.append(' ').append(field.getName());
                int size = field.getType().isArray() ? Array.getLength(value) : 0;
                for (int i = 0; i < size; i++) {
                    text.append(' ').append(Array.get(value, i));
                }
                if (size == 0) {
                    text.append(' ').append(value);
                }
            }
        }
        return text.toString();
    }

    /** All that is in the object: inboxes, then the waiting lists by way of these, then the drafts. */
    private static String drained(LinkStack x) {
        StringBuilder out = new StringBuilder();
        for (int port = 0; port < PORTS; port++) {
            out.append(Messages.waitingAt(x, port)).append(' ').append(x.total(port)).append(' ');
        }
        for (int round = 0; round < 3; round++) {
            drainInboxes(x, out);
            out.append("settle ").append(x.settle()).append(' ');
        }
        for (int e = 0; e < 2; e++) {
            out.append("draft ").append(x.draft(e)).append(" post ").append(x.post(e, e)).append(' ');
        }
        x.settle();
        drainInboxes(x, out);
        return out.toString();
    }

    private static void drainInboxes(LinkStack x, StringBuilder out) {
        for (int inbox = 0; inbox < PORTS; inbox++) {
            int held = x.arrived(inbox);
            for (int n = 0; n < held; n++) {
                int length = x.length(inbox, 0);
                out.append("[ ");
                for (int k = 0; k < length; k++) {
                    out.append(x.byteAt(inbox, 0, k)).append(' ');
                }
                out.append("] ").append(x.take(inbox)).append(' ');
            }
        }
    }

    private static void nothingArrivesButBySettle() {
        t.about("16: Nothing arrives but by settle");
        for (int call = 0; call < 13; call++) {
            for (int held = 0; held <= 5; held++) {
                LinkStack x = new State(1, held, 3, 0, false).make();
                int taken = 0;
                for (int a = 0; a < PORTS; a++) {
                    taken += callOther(x, call, a);
                }
                for (int inbox = 0; inbox < PORTS; inbox++) {
                    t.due("call " + call + ": total of " + inbox, held, x.total(inbox));
                    int posted = call == 2 ? 1 : 0;
                    t.due("call " + call + ": waiting at " + inbox, 3 + posted, Messages.waitingAt(x, inbox));
                    t.due("call " + call + ": arrived in " + inbox, held - taken / PORTS, x.arrived(inbox));
                }
            }
        }
    }

    /** Every call but settle, for the end or the inbox a; answers how many messages it took out. */
    private static int callOther(LinkStack x, int call, int a) {
        int e = a % 2;
        switch (call) {
            case 0: x.write(e, a); break;
            case 1: x.wipe(e); break;
            case 2: x.post(e, a / 2); break;
            case 3: x.disturb(e, a, a); break;
            case 4: x.restart(e); break;
            case 5: x.waiting(e, a / 2); break;
            case 6: x.arrived(a); break;
            case 7: x.length(a, 0); break;
            case 8: x.byteAt(a, 0, 0); break;
            case 9: return x.take(a) == BAD ? 0 : 1;
            case 10: x.draft(e); break;
            case 11: x.settled(); break;
            default: x.total(a); break;
        }
        return 0;
    }

    private static void postOnlyPutsIntoTheWaitingList() {
        t.about("16: post only puts a message into the waiting list");
        for (int port = 0; port < PORTS; port++) {
            LinkStack x = new LinkStack();
            for (int n = 1; n <= 8; n++) {
                Messages.sendFrom(x, port, 1, n);
                t.due("waiting", n, Messages.waitingAt(x, port));
                for (int inbox = 0; inbox < PORTS; inbox++) {
                    t.due("arrived", 0, x.arrived(inbox));
                    t.due("total", 0, x.total(inbox));
                }
            }
            x.settle();
            x.take(port ^ 1);
            Messages.sendFrom(x, port, 1, 9);
            t.due("though there is room", 4, x.arrived(port ^ 1));
            t.due("and others wait", 4, Messages.waitingAt(x, port));
        }
    }

    private static void emptyDraftIsPosted() {
        t.about("16: An empty draft is posted as a message of length 0");
        for (int port = 0; port < PORTS; port++) {
            int e = port % 2;
            LinkStack x = new LinkStack();
            t.due("never written", 1, x.post(e, port / 2));
            x.write(e, 5);
            x.wipe(e);
            t.due("wiped", 2, x.post(e, port / 2));
            x.write(e, 6);
            t.due("not empty", 3, x.post(e, port / 2));
            t.due("posted before", 4, x.post(e, port / 2));
            t.due("settle", 4, x.settle());
            int[] lengths = {0, 0, 1, 0};
            for (int i = 0; i < 4; i++) {
                t.due("length " + i, lengths[i], x.length(port ^ 1, i));
                t.due("byte " + i, lengths[i] == 1 ? 6 : BAD, x.byteAt(port ^ 1, i, 0));
            }
            for (int i = 0; i < 4; i++) {
                t.due("take " + i, lengths[i], x.take(port ^ 1));
            }
        }
    }

    private static void emptyMessageTakesAPlace() {
        t.about("16: An empty draft is posted as a message: eight fill a list, five an inbox");
        for (int port = 0; port < PORTS; port++) {
            LinkStack x = new LinkStack();
            for (int n = 1; n <= 9; n++) {
                t.due("post", n < 9 ? n : FULL, x.post(port % 2, port / 2));
            }
            t.due("not settled", false, x.settled());
            t.due("settle", 5, x.settle());
            t.due("arrived", 5, x.arrived(port ^ 1));
            t.due("waiting", 3, Messages.waitingAt(x, port));
            t.due("settled", true, x.settled());
        }
    }
}
