/** Each promise of the document by itself: ordinary inputs, the edges it names, wrong inputs. */
public final class PromisesTest {
    private static final int BAD = -1;
    private static final int FULL = -2;
    private static final int[] NOT_AN_END = {-1, 2, 3, Integer.MIN_VALUE, Integer.MAX_VALUE};
    private static final int[] NOT_AN_INBOX = {-1, 4, 5, Integer.MIN_VALUE, Integer.MAX_VALUE};
    private static final Due t = new Due();

    public static void main(String[] args) {
        promise1NewObject();
        promise2Write();
        promise3Wipe();
        promise4Post();
        promise4RefusalKeepsTheDraft();
        promise5Disturb();
        promise5NothingIsLostForGood();
        promise6Restart();
        promise6RestartKeepsMessages();
        promise7Settle();
        promise7EveryDirection();
        promise7FullInboxHoldsUpItsOwnListAlone();
        promise8Waiting();
        promise9Arrived();
        promise10Length();
        promise11ByteAt();
        promise12Take();
        promise12TakeMakesRoom();
        promise13Draft();
        promise14Settled();
        promise15Total();
        promise16RefusedCallsChangeNothing();
        promise16NothingArrivesButBySettle();
        promise16EmptyDraft();
        pastTheLastPromisedCall();
        t.end();
    }

    /** Posts a message of the given length whose bytes are first, first + 1, .. */
    private static int send(LinkStack x, int e, int channel, int length, int first) {
        for (int i = 0; i < length; i++) {
            x.write(e, (first + i) & 255);
        }
        return x.post(e, channel);
    }

    private static void holds(LinkStack x, int inbox, int i, int length, int first) {
        String where = "inbox " + inbox + ", message " + i;
        t.due(where + ": length", length, x.length(inbox, i));
        for (int k = 0; k < length; k++) {
            t.due(where + ": byte " + k, (first + k) & 255, x.byteAt(inbox, i, k));
        }
        t.due(where + ": byte " + length, BAD, x.byteAt(inbox, i, length));
    }

    private static void promise1NewObject() {
        LinkStack x = new LinkStack();
        for (int e = 0; e < 2; e++) {
            t.due("new: draft", 0, x.draft(e));
            t.due("new: waiting 0", 0, x.waiting(e, 0));
            t.due("new: waiting 1", 0, x.waiting(e, 1));
        }
        for (int inbox = 0; inbox < 4; inbox++) {
            t.due("new: arrived", 0, x.arrived(inbox));
            t.due("new: total", 0, x.total(inbox));
            t.due("new: length", BAD, x.length(inbox, 0));
            t.due("new: byteAt", BAD, x.byteAt(inbox, 0, 0));
            t.due("new: take", BAD, x.take(inbox));
        }
        t.due("new: settled", true, x.settled());
        t.due("new: settle", 0, x.settle());
        t.due("BAD", BAD, LinkStack.BAD);
        t.due("FULL", FULL, LinkStack.FULL);
        LinkStack other = new LinkStack();
        other.write(0, 1);
        other.post(0, 0);
        other.settle();
        t.due("objects are apart", 0, x.arrived(1));
    }

    private static void promise2Write() {
        LinkStack x = new LinkStack();
        for (int n = 1; n <= 24; n++) {
            t.due("write " + n, n, x.write(0, n % 2 == 0 ? 0 : 255));
        }
        t.due("write 25", FULL, x.write(0, 7));
        t.due("write 25 again", FULL, x.write(0, 7));
        t.due("BAD before FULL, -1", BAD, x.write(0, -1));
        t.due("BAD before FULL, 256", BAD, x.write(0, 256));
        t.due("the other draft", 1, x.write(1, 7));
        t.due("byte -1", BAD, x.write(1, -1));
        t.due("byte 256", BAD, x.write(1, 256));
        t.due("byte min", BAD, x.write(1, Integer.MIN_VALUE));
        t.due("byte max", BAD, x.write(1, Integer.MAX_VALUE));
        for (int e : NOT_AN_END) {
            t.due("write at " + e, BAD, x.write(e, 0));
        }
        t.due("refused bytes are not written", 2, x.write(1, 8));
    }

    private static void promise3Wipe() {
        LinkStack x = new LinkStack();
        t.due("wipe empty", 0, x.wipe(0));
        x.write(0, 1);
        x.write(0, 2);
        x.write(1, 3);
        t.due("wipe two", 2, x.wipe(0));
        t.due("wiped", 0, x.draft(0));
        t.due("wipe again", 0, x.wipe(0));
        t.due("the other stays", 1, x.draft(1));
        t.due("write anew", 1, x.write(0, 9));
        x.post(0, 0);
        x.settle();
        holds(x, 1, 0, 1, 9);
        for (int i = 0; i < 24; i++) {
            x.write(1, 0);
        }
        t.due("wipe full", 24, x.wipe(1));
        for (int e : NOT_AN_END) {
            t.due("wipe " + e, BAD, x.wipe(e));
        }
    }

    private static void promise4Post() {
        for (int e = 0; e < 2; e++) {
            for (int channel = 0; channel < 2; channel++) {
                LinkStack x = new LinkStack();
                for (int n = 1; n <= 8; n++) {
                    t.due("post " + n, n, send(x, e, channel, n, n));
                    t.due("draft after post", 0, x.draft(e));
                }
                t.due("post 9", FULL, x.post(e, channel));
                t.due("other channel", 1, x.post(e, 1 - channel));
                t.due("other end", 1, x.post(1 - e, channel));
            }
        }
        LinkStack x = new LinkStack();
        for (int wrong : NOT_AN_END) {
            t.due("post at " + wrong, BAD, x.post(wrong, 0));
            t.due("post on " + wrong, BAD, x.post(0, wrong));
            t.due("post at and on " + wrong, BAD, x.post(wrong, wrong));
        }
    }

    private static void promise4RefusalKeepsTheDraft() {
        LinkStack x = new LinkStack();
        for (int n = 0; n < 8; n++) {
            send(x, 1, 1, 1, n);
        }
        x.write(1, 77);
        x.write(1, 78);
        t.due("FULL", FULL, x.post(1, 1));
        t.due("draft after FULL", 2, x.draft(1));
        t.due("waiting after FULL", 8, x.waiting(1, 1));
        t.due("BAD before FULL", BAD, x.post(1, 2));
        t.due("draft after BAD", 2, x.draft(1));
        t.due("settle", 5, x.settle());
        t.due("post now", 4, x.post(1, 1));
        for (int i = 0; i < 5; i++) {
            holds(x, 2, 0, 1, i);
            x.take(2);
        }
        x.settle();
        holds(x, 2, 3, 2, 77);
    }

    private static void promise5Disturb() {
        LinkStack x = new LinkStack();
        for (int e = 0; e < 2; e++) {
            for (int k = 0; k < 16; k++) {
                for (int kind = 0; kind < 4; kind++) {
                    t.due("disturb, also past twelve orders", true, x.disturb(e, k, kind));
                }
            }
        }
        for (int wrong : NOT_AN_END) {
            t.due("disturb end " + wrong, false, x.disturb(wrong, 0, 0));
        }
        for (int wrong : new int[] {-1, 16, 17, Integer.MIN_VALUE, Integer.MAX_VALUE}) {
            t.due("disturb piece " + wrong, false, x.disturb(0, wrong, 0));
        }
        for (int wrong : new int[] {-1, 4, 5, Integer.MIN_VALUE, Integer.MAX_VALUE}) {
            t.due("disturb kind " + wrong, false, x.disturb(1, 0, wrong));
        }
        t.due("nothing to settle", 0, x.settle());
        t.due("settled", true, x.settled());
    }

    /** Every kind at every piece of either end, twice over, with traffic in all four directions. */
    private static void promise5NothingIsLostForGood() {
        for (int kind = 0; kind < 4; kind++) {
            for (int k = 0; k < 16; k++) {
                for (int second = 0; second < 4; second++) {
                    LinkStack x = new LinkStack();
                    for (int e = 0; e < 2; e++) {
                        x.disturb(e, k, kind);
                        x.disturb(e, (k + 1) % 16, second);
                        x.disturb(e, k, second);
                    }
                    fillAllAndSettle(x);
                }
            }
        }
        for (int kind = 0; kind < 4; kind++) {
            LinkStack x = new LinkStack();
            for (int k = 0; k < 12; k++) {
                x.disturb(0, k, kind);
                x.disturb(1, k, kind);
            }
            fillAllAndSettle(x);
        }
    }

    private static void fillAllAndSettle(LinkStack x) {
        for (int port = 0; port < 4; port++) {
            for (int n = 0; n < 3; n++) {
                send(x, port % 2, port / 2, 3 + n, 50 * port + 10 * n);
            }
        }
        t.due("settle disturbed", 12, x.settle());
        t.due("settle again", 0, x.settle());
        for (int port = 0; port < 4; port++) {
            t.due("arrived disturbed", 3, x.arrived(port ^ 1));
            t.due("waiting disturbed", 0, x.waiting(port % 2, port / 2));
            for (int n = 0; n < 3; n++) {
                holds(x, port ^ 1, n, 3 + n, 50 * port + 10 * n);
            }
        }
    }

    private static void promise6Restart() {
        LinkStack x = new LinkStack();
        t.due("restart 0", true, x.restart(0));
        t.due("restart 1", true, x.restart(1));
        t.due("restart 1 again", true, x.restart(1));
        for (int e : NOT_AN_END) {
            t.due("restart " + e, false, x.restart(e));
        }
    }

    /** Each end, or both, starts anew after every step of a run with full inboxes. */
    private static void promise6RestartKeepsMessages() {
        for (int who = 0; who < 4; who++) {
            LinkStack x = new LinkStack();
            for (int n = 0; n < 8; n++) {
                send(x, 0, 1, 2, 10 * n);
                restart(x, who);
            }
            x.write(0, 200);
            restart(x, who);
            t.due("draft after restart", 1, x.draft(0));
            t.due("waiting after restart", 8, x.waiting(0, 1));
            t.due("settled after restart", false, x.settled());
            t.due("settle after restart", 5, x.settle());
            restart(x, who);
            t.due("arrived after restart", 5, x.arrived(3));
            t.due("waiting, inbox full", 3, x.waiting(0, 1));
            t.due("settle on full inbox", 0, x.settle());
            for (int n = 0; n < 8; n++) {
                restart(x, who);
                holds(x, 3, 0, 2, 10 * n);
                t.due("take", 2, x.take(3));
                restart(x, who);
                x.disturb(0, n % 3, n % 4);
                x.disturb(1, n % 2, (n + 1) % 4);
                t.due("settle with room for one", n < 3 ? 1 : 0, x.settle());
                t.due("total after restart", n < 3 ? 6 + n : 8, x.total(3));
            }
            t.due("all taken", BAD, x.take(3));
        }
    }

    private static void restart(LinkStack x, int who) {
        for (int e = 0; e < 2; e++) {
            if (((who >> e) & 1) == 1) {
                t.due("restart", true, x.restart(e));
            }
        }
    }

    private static void promise7Settle() {
        LinkStack x = new LinkStack();
        send(x, 0, 0, 24, 0);
        send(x, 0, 0, 0, 0);
        send(x, 0, 0, 24, 232);
        t.due("settle three", 3, x.settle());
        holds(x, 1, 0, 24, 0);
        holds(x, 1, 1, 0, 0);
        holds(x, 1, 2, 24, 232);
        t.due("settle none", 0, x.settle());
        send(x, 0, 0, 1, 9);
        send(x, 0, 0, 1, 10);
        send(x, 0, 0, 1, 11);
        t.due("settle to the brim", 2, x.settle());
        t.due("one stays", 1, x.waiting(0, 0));
        t.due("settle when full", 0, x.settle());
        holds(x, 1, 4, 1, 10);
    }

    private static void promise7EveryDirection() {
        for (int port = 0; port < 4; port++) {
            LinkStack x = new LinkStack();
            send(x, port % 2, port / 2, 3, 40 + port);
            t.due("settle one", 1, x.settle());
            for (int inbox = 0; inbox < 4; inbox++) {
                t.due("from port " + port + " to " + inbox, inbox == (port ^ 1) ? 1 : 0, x.arrived(inbox));
            }
            holds(x, port ^ 1, 0, 3, 40 + port);
        }
    }

    private static void promise7FullInboxHoldsUpItsOwnListAlone() {
        for (int port = 0; port < 4; port++) {
            LinkStack x = new LinkStack();
            for (int n = 0; n < 8; n++) {
                send(x, port % 2, port / 2, 1, n);
            }
            for (int other = 0; other < 4; other++) {
                if (other != port) {
                    send(x, other % 2, other / 2, 2, other);
                }
            }
            t.due("settle five and three", 8, x.settle());
            t.due("held up", 3, x.waiting(port % 2, port / 2));
            for (int other = 0; other < 4; other++) {
                if (other != port) {
                    t.due("not held up", 0, x.waiting(other % 2, other / 2));
                    holds(x, other ^ 1, 0, 2, other);
                }
            }
        }
    }

    private static void promise8Waiting() {
        LinkStack x = new LinkStack();
        x.post(0, 1);
        x.post(1, 0);
        x.post(1, 0);
        t.due("waiting 0 0", 0, x.waiting(0, 0));
        t.due("waiting 0 1", 1, x.waiting(0, 1));
        t.due("waiting 1 0", 2, x.waiting(1, 0));
        t.due("waiting 1 1", 0, x.waiting(1, 1));
        x.settle();
        t.due("waiting after settle", 0, x.waiting(1, 0));
        for (int wrong : NOT_AN_END) {
            t.due("waiting at " + wrong, BAD, x.waiting(wrong, 0));
            t.due("waiting on " + wrong, BAD, x.waiting(1, wrong));
        }
    }

    private static void promise9Arrived() {
        LinkStack x = new LinkStack();
        for (int n = 0; n < 7; n++) {
            x.post(1, 1);
        }
        x.post(0, 0);
        x.settle();
        t.due("arrived 0", 0, x.arrived(0));
        t.due("arrived 1", 1, x.arrived(1));
        t.due("arrived 2", 5, x.arrived(2));
        t.due("arrived 3", 0, x.arrived(3));
        x.take(2);
        t.due("arrived after take", 4, x.arrived(2));
        for (int inbox : NOT_AN_INBOX) {
            t.due("arrived " + inbox, BAD, x.arrived(inbox));
        }
    }

    private static void promise10Length() {
        LinkStack x = new LinkStack();
        send(x, 0, 0, 24, 0);
        send(x, 0, 0, 0, 0);
        send(x, 0, 0, 5, 0);
        x.settle();
        t.due("length 0", 24, x.length(1, 0));
        t.due("length 1", 0, x.length(1, 1));
        t.due("length 2", 5, x.length(1, 2));
        for (int i : new int[] {-1, 3, 4, 5, Integer.MIN_VALUE, Integer.MAX_VALUE}) {
            t.due("length of message " + i, BAD, x.length(1, i));
        }
        for (int inbox : NOT_AN_INBOX) {
            t.due("length in " + inbox, BAD, x.length(inbox, 0));
        }
        x.take(1);
        t.due("length after take", 0, x.length(1, 0));
        t.due("gone", BAD, x.length(1, 2));
    }

    private static void promise11ByteAt() {
        LinkStack x = new LinkStack();
        send(x, 1, 0, 24, 240);
        send(x, 1, 0, 0, 0);
        send(x, 1, 0, 2, 254);
        x.settle();
        holds(x, 0, 0, 24, 240);
        holds(x, 0, 1, 0, 0);
        holds(x, 0, 2, 2, 254);
        for (int wrong : new int[] {-1, 24, 25, Integer.MIN_VALUE, Integer.MAX_VALUE}) {
            t.due("byte " + wrong, BAD, x.byteAt(0, 0, wrong));
            t.due("byte of message " + wrong, BAD, x.byteAt(0, wrong, 0));
        }
        t.due("message 3", BAD, x.byteAt(0, 3, 0));
        for (int inbox : NOT_AN_INBOX) {
            t.due("byte in " + inbox, BAD, x.byteAt(inbox, 0, 0));
        }
    }

    private static void promise12Take() {
        LinkStack x = new LinkStack();
        for (int n = 1; n <= 3; n++) {
            send(x, 1, 1, n, 100 * n);
        }
        t.due("nothing arrived yet", BAD, x.take(2));
        x.settle();
        for (int n = 1; n <= 3; n++) {
            holds(x, 2, 0, n, 100 * n);
            t.due("take " + n, n, x.take(2));
        }
        t.due("take from empty", BAD, x.take(2));
        t.due("total stays", 3, x.total(2));
        for (int inbox : NOT_AN_INBOX) {
            t.due("take from " + inbox, BAD, x.take(inbox));
        }
    }

    /** Enough messages to go round each list several times. */
    private static void promise12TakeMakesRoom() {
        LinkStack x = new LinkStack();
        for (int n = 0; n < 8; n++) {
            send(x, 0, 0, 2, n);
        }
        x.settle();
        for (int n = 8; n < 50; n++) {
            holds(x, 1, 0, 2, n - 8);
            t.due("take", 2, x.take(1));
            t.due("settle one", 1, x.settle());
            t.due("post", 3, send(x, 0, 0, 2, n));
            holds(x, 1, 4, 2, n - 3);
        }
        t.due("total", 47, x.total(1));
    }

    private static void promise13Draft() {
        LinkStack x = new LinkStack();
        for (int n = 1; n <= 25; n++) {
            x.write(1, n);
            t.due("draft 1", n < 25 ? n : 24, x.draft(1));
        }
        t.due("draft 0", 0, x.draft(0));
        x.settle();
        t.due("draft after settle", 24, x.draft(1));
        x.post(1, 0);
        t.due("draft after post", 0, x.draft(1));
        for (int e : NOT_AN_END) {
            t.due("draft " + e, BAD, x.draft(e));
        }
    }

    private static void promise14Settled() {
        for (int port = 0; port < 4; port++) {
            LinkStack x = new LinkStack();
            x.write(port % 2, 1);
            t.due("a draft alone", true, x.settled());
            for (int n = 0; n < 6; n++) {
                x.post(port % 2, port / 2);
                t.due("posted", false, x.settled());
            }
            t.due("asking settles nothing", 0, x.arrived(port ^ 1));
            x.settle();
            t.due("one waits, inbox full", true, x.settled());
            x.restart(0);
            x.disturb(1, 0, 0);
            t.due("whatever the link", true, x.settled());
            x.take(port ^ 1);
            t.due("room again", false, x.settled());
            x.settle();
            t.due("nothing waits", true, x.settled());
        }
    }

    private static void promise15Total() {
        LinkStack x = new LinkStack();
        for (int round = 1; round <= 10; round++) {
            x.post(0, 1);
            t.due("posted does not count", round - 1, x.total(3));
            x.settle();
            t.due("total", round, x.total(3));
            if (round > 2) {
                x.take(3);
            }
            t.due("total after take", round, x.total(3));
            x.restart(round % 2);
            t.due("total after restart", round, x.total(3));
        }
        for (int inbox = 0; inbox < 3; inbox++) {
            t.due("other totals", 0, x.total(inbox));
        }
        for (int inbox : NOT_AN_INBOX) {
            t.due("total of " + inbox, BAD, x.total(inbox));
        }
    }

    private static void promise16RefusedCallsChangeNothing() {
        LinkStack x = new LinkStack();
        send(x, 0, 0, 2, 60);
        send(x, 1, 1, 3, 70);
        x.settle();
        x.post(1, 0);
        x.write(0, 5);
        for (int wrong : NOT_AN_INBOX) {
            x.write(wrong, 0);
            x.write(0, wrong == 4 || wrong == 5 ? 256 : wrong);
            x.wipe(wrong);
            x.post(wrong, 0);
            x.post(0, wrong);
            x.disturb(wrong, 0, 0);
            x.restart(wrong);
            x.waiting(wrong, 0);
            x.arrived(wrong);
            x.length(wrong, 0);
            x.length(1, wrong);
            x.byteAt(1, 0, wrong);
            x.take(wrong);
            x.draft(wrong);
            x.total(wrong);
        }
        x.take(0);
        x.take(3);
        t.due("draft 0", 1, x.draft(0));
        t.due("draft 1", 0, x.draft(1));
        t.due("waiting 1 0", 1, x.waiting(1, 0));
        t.due("waiting 0 0", 0, x.waiting(0, 0));
        holds(x, 1, 0, 2, 60);
        holds(x, 2, 0, 3, 70);
        t.due("total 0", 0, x.total(0));
        t.due("total 1", 1, x.total(1));
        t.due("settle", 1, x.settle());
    }

    private static void promise16NothingArrivesButBySettle() {
        LinkStack x = new LinkStack();
        for (int port = 0; port < 4; port++) {
            send(x, port % 2, port / 2, 1, port);
        }
        x.disturb(0, 0, 1);
        x.restart(1);
        x.settled();
        for (int inbox = 0; inbox < 4; inbox++) {
            x.take(inbox);
            x.byteAt(inbox, 0, 0);
            t.due("not arrived", 0, x.arrived(inbox));
            t.due("still waiting", 1, x.waiting(inbox % 2, inbox / 2));
        }
        x.settle();
        for (int n = 0; n < 7; n++) {
            x.post(0, 0);
        }
        x.settle();
        x.take(1);
        t.due("take lets nothing in", 4, x.arrived(1));
        t.due("take moves nothing", 3, x.waiting(0, 0));
    }

    private static void promise16EmptyDraft() {
        LinkStack x = new LinkStack();
        t.due("post empty", 1, x.post(1, 1));
        t.due("settle", 1, x.settle());
        t.due("arrived", 1, x.arrived(2));
        t.due("length", 0, x.length(2, 0));
        t.due("byte", BAD, x.byteAt(2, 0, 0));
        t.due("take", 0, x.take(2));
    }

    /** The answers are free then, but LANGUAGE.md rule 7 still asks every call to end. */
    private static void pastTheLastPromisedCall() {
        LinkStack x = new LinkStack();
        for (int n = 0; n < 70000; n++) {
            x.write(0, n & 255);
            x.post(0, 0);
            x.disturb(0, n % 16, n % 4);
            x.restart(n % 2);
            x.settle();
            x.take(1);
        }
        t.due("it still works", 70000, x.total(1));
    }
}
