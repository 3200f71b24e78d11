/** Each promise of the document by itself, with ordinary inputs; the edges have tests of their own. */
public final class PromisesTest {
    private static final int BAD = -1;
    private static final Due t = new Due();

    public static void main(String[] args) {
        exampleOfTheReadme();
        promise1ObjectsAreApart();
        promise2Write();
        promise3Wipe();
        promise4Post();
        promise5NothingIsLostForGood();
        promise6RestartKeepsMessages();
        promise7Settle();
        promise7EveryDirection();
        promise7FullInboxHoldsUpItsOwnListAlone();
        promise8Waiting();
        promise9Arrived();
        promise10LengthAndPromise11ByteAt();
        promise12Take();
        promise12TakeMakesRoom();
        promise13Draft();
        promise14Settled();
        promise15Total();
        pastTheLastPromisedCall();
        t.end();
    }

    private static void holds(LinkStack x, int inbox, int i, int length, int first) {
        Messages.holds(t, x, inbox, i, length, first);
    }

    private static void exampleOfTheReadme() {
        LinkStack x = new LinkStack();
        t.due("write", 1, x.write(0, 104));
        t.due("write", 2, x.write(0, 105));
        t.due("post", 1, x.post(0, 1));
        t.due("disturb", true, x.disturb(0, 0, 2));
        t.due("restart", true, x.restart(1));
        t.due("settled", false, x.settled());
        t.due("settle", 1, x.settle());
        t.due("byteAt", 104, x.byteAt(1 + 2 * 1, 0, 0));
        t.due("take", 2, x.take(3));
    }

    private static void promise1ObjectsAreApart() {
        LinkStack x = new LinkStack();
        LinkStack other = new LinkStack();
        Messages.send(x, 0, 0, 1, 1);
        x.settle();
        x.post(1, 1);
        x.write(0, 2);
        t.due("draft", 0, other.draft(0));
        t.due("waiting", 0, other.waiting(1, 1));
        t.due("arrived", 0, other.arrived(1));
    }

    private static void promise2Write() {
        LinkStack x = new LinkStack();
        for (int n = 1; n <= 5; n++) {
            t.due("write at 0", n, x.write(0, 10 + n));
            t.due("write at 1", n, x.write(1, 20 + n));
        }
        x.post(0, 0);
        x.post(1, 0);
        x.settle();
        holds(x, 1, 0, 5, 11);
        holds(x, 0, 0, 5, 21);
    }

    private static void promise3Wipe() {
        LinkStack x = new LinkStack();
        x.write(0, 1);
        x.write(0, 2);
        x.write(1, 3);
        t.due("wipe two", 2, x.wipe(0));
        t.due("wiped", 0, x.draft(0));
        t.due("the other stays", 1, x.draft(1));
        t.due("write anew", 1, x.write(0, 9));
        x.post(0, 0);
        x.settle();
        holds(x, 1, 0, 1, 9);
    }

    private static void promise4Post() {
        LinkStack x = new LinkStack();
        t.due("post", 1, Messages.send(x, 0, 1, 3, 30));
        t.due("draft after post", 0, x.draft(0));
        t.due("post", 2, Messages.send(x, 0, 1, 4, 40));
        t.due("other channel", 1, Messages.send(x, 0, 0, 5, 50));
        t.due("other end", 1, Messages.send(x, 1, 1, 6, 60));
        x.settle();
        holds(x, 3, 0, 3, 30);
        holds(x, 3, 1, 4, 40);
        holds(x, 1, 0, 5, 50);
        holds(x, 2, 0, 6, 60);
    }

    /** Every kind at every piece of either end, twice over, with traffic in all four directions. */
    private static void promise5NothingIsLostForGood() {
        for (int kind = 0; kind < 4; kind++) {
            for (int k = 0; k < 16; k++) {
                for (int second = 0; second < 4; second++) {
                    LinkStack x = new LinkStack();
                    for (int e = 0; e < 2; e++) {
                        t.due("disturb", true, x.disturb(e, k, kind));
                        t.due("disturb", true, x.disturb(e, (k + 1) % 16, second));
                        t.due("disturb", true, x.disturb(e, k, second));
                    }
                    sendAllAndSettle(x);
                }
            }
        }
    }

    private static void sendAllAndSettle(LinkStack x) {
        for (int port = 0; port < 4; port++) {
            for (int n = 0; n < 3; n++) {
                Messages.sendFrom(x, port, 3 + n, 50 * port + 10 * n);
            }
        }
        t.due("settle disturbed", 12, x.settle());
        t.due("settle again", 0, x.settle());
        for (int port = 0; port < 4; port++) {
            t.due("arrived disturbed", 3, x.arrived(port ^ 1));
            t.due("waiting disturbed", 0, Messages.waitingAt(x, port));
            for (int n = 0; n < 3; n++) {
                holds(x, port ^ 1, n, 3 + n, 50 * port + 10 * n);
            }
        }
    }

    /** Each end, or both, starts anew after every step of a run with full inboxes. */
    private static void promise6RestartKeepsMessages() {
        for (int who = 0; who < 4; who++) {
            LinkStack x = new LinkStack();
            for (int n = 0; n < 8; n++) {
                Messages.send(x, 0, 1, 2, 10 * n);
                restart(x, who);
            }
            x.write(0, 200);
            restart(x, who);
            t.due("draft after restart", 1, x.draft(0));
            t.due("waiting after restart", 8, x.waiting(0, 1));
            t.due("settled after restart", false, x.settled());
            t.due("settle after restart", 5, x.settle());
            restart(x, who);
            t.due("arrived after restart", 5, x.arrived(3));
            t.due("waiting, inbox full", 3, x.waiting(0, 1));
            t.due("settle on full inbox", 0, x.settle());
            for (int n = 0; n < 8; n++) {
                restart(x, who);
                holds(x, 3, 0, 2, 10 * n);
                t.due("take", 2, x.take(3));
                restart(x, who);
                x.disturb(0, n % 3, n % 4);
                x.disturb(1, n % 2, (n + 1) % 4);
                t.due("settle with room for one", n < 3 ? 1 : 0, x.settle());
                t.due("total after restart", n < 3 ? 6 + n : 8, x.total(3));
            }
            t.due("all taken", BAD, x.take(3));
        }
    }

    private static void restart(LinkStack x, int who) {
        for (int e = 0; e < 2; e++) {
            if (((who >> e) & 1) == 1) {
                t.due("restart", true, x.restart(e));
            }
        }
    }

    private static void promise7Settle() {
        LinkStack x = new LinkStack();
        Messages.send(x, 0, 0, 24, 0);
        Messages.send(x, 0, 0, 0, 0);
        Messages.send(x, 0, 0, 24, 232);
        t.due("settle three", 3, x.settle());
        holds(x, 1, 0, 24, 0);
        holds(x, 1, 1, 0, 0);
        holds(x, 1, 2, 24, 232);
        t.due("settle none", 0, x.settle());
        Messages.send(x, 0, 0, 1, 9);
        t.due("settle one", 1, x.settle());
        holds(x, 1, 3, 1, 9);
    }

    private static void promise7EveryDirection() {
        for (int port = 0; port < 4; port++) {
            LinkStack x = new LinkStack();
            Messages.sendFrom(x, port, 3, 40 + port);
            t.due("settle one", 1, x.settle());
            for (int inbox = 0; inbox < 4; inbox++) {
                t.due("from port " + port + " to " + inbox, inbox == (port ^ 1) ? 1 : 0, x.arrived(inbox));
            }
            holds(x, port ^ 1, 0, 3, 40 + port);
        }
    }

    private static void promise7FullInboxHoldsUpItsOwnListAlone() {
        for (int port = 0; port < 4; port++) {
            LinkStack x = new LinkStack();
            for (int n = 0; n < 8; n++) {
                Messages.sendFrom(x, port, 1, n);
            }
            for (int other = 0; other < 4; other++) {
                if (other != port) {
                    Messages.sendFrom(x, other, 2, other);
                }
            }
            t.due("settle five and three", 8, x.settle());
            t.due("held up", 3, Messages.waitingAt(x, port));
            for (int other = 0; other < 4; other++) {
                if (other != port) {
                    t.due("not held up", 0, Messages.waitingAt(x, other));
                    holds(x, other ^ 1, 0, 2, other);
                }
            }
        }
    }

    private static void promise8Waiting() {
        LinkStack x = new LinkStack();
        x.post(0, 1);
        x.post(1, 0);
        x.post(1, 0);
        t.due("waiting 0 0", 0, x.waiting(0, 0));
        t.due("waiting 0 1", 1, x.waiting(0, 1));
        t.due("waiting 1 0", 2, x.waiting(1, 0));
        t.due("waiting 1 1", 0, x.waiting(1, 1));
        x.settle();
        t.due("waiting after settle", 0, x.waiting(1, 0));
    }

    private static void promise9Arrived() {
        LinkStack x = new LinkStack();
        for (int n = 0; n < 3; n++) {
            x.post(1, 1);
        }
        x.post(0, 0);
        x.settle();
        t.due("arrived 0", 0, x.arrived(0));
        t.due("arrived 1", 1, x.arrived(1));
        t.due("arrived 2", 3, x.arrived(2));
        t.due("arrived 3", 0, x.arrived(3));
        x.take(2);
        t.due("arrived after take", 2, x.arrived(2));
    }

    private static void promise10LengthAndPromise11ByteAt() {
        LinkStack x = new LinkStack();
        Messages.send(x, 1, 0, 3, 240);
        Messages.send(x, 1, 0, 7, 0);
        Messages.send(x, 1, 0, 2, 254);
        x.settle();
        holds(x, 0, 0, 3, 240);
        holds(x, 0, 1, 7, 0);
        holds(x, 0, 2, 2, 254);
    }

    private static void promise12Take() {
        LinkStack x = new LinkStack();
        for (int n = 1; n <= 3; n++) {
            Messages.send(x, 1, 1, n, 100 * n);
        }
        x.settle();
        for (int n = 1; n <= 3; n++) {
            holds(x, 2, 0, n, 100 * n);
            t.due("take " + n, n, x.take(2));
        }
        t.due("total stays", 3, x.total(2));
    }

    /** Enough messages to go round each list several times. */
    private static void promise12TakeMakesRoom() {
        LinkStack x = new LinkStack();
        for (int n = 0; n < 8; n++) {
            Messages.send(x, 0, 0, 1, n);
        }
        x.settle();
        for (int n = 8; n < 50; n++) {
            holds(x, 1, 0, 1, n - 8);
            t.due("take", 1, x.take(1));
            t.due("settle one", 1, x.settle());
            t.due("post", 3, Messages.send(x, 0, 0, 1, n));
            holds(x, 1, 4, 1, n - 3);
        }
        t.due("total", 47, x.total(1));
    }

    private static void promise13Draft() {
        LinkStack x = new LinkStack();
        for (int n = 1; n <= 5; n++) {
            x.write(1, n);
            t.due("draft 1", n, x.draft(1));
        }
        t.due("draft 0", 0, x.draft(0));
        x.settle();
        t.due("draft after settle", 5, x.draft(1));
        x.post(1, 0);
        t.due("draft after post", 0, x.draft(1));
    }

    private static void promise14Settled() {
        for (int port = 0; port < 4; port++) {
            LinkStack x = new LinkStack();
            x.write(port % 2, 1);
            t.due("a draft alone", true, x.settled());
            for (int n = 0; n < 6; n++) {
                x.post(port % 2, port / 2);
                t.due("posted", false, x.settled());
            }
            t.due("asking settles nothing", 0, x.arrived(port ^ 1));
            x.settle();
            t.due("one waits, inbox full", true, x.settled());
            x.restart(0);
            x.disturb(1, 0, 0);
            t.due("whatever the link", true, x.settled());
            x.take(port ^ 1);
            t.due("room again", false, x.settled());
            x.settle();
            t.due("nothing waits", true, x.settled());
        }
    }

    private static void promise15Total() {
        LinkStack x = new LinkStack();
        for (int round = 1; round <= 10; round++) {
            x.post(0, 1);
            t.due("posted does not count", round - 1, x.total(3));
            x.settle();
            t.due("total", round, x.total(3));
            if (round > 2) {
                x.take(3);
            }
            t.due("total after take", round, x.total(3));
            x.restart(round % 2);
            t.due("total after restart", round, x.total(3));
        }
        for (int inbox = 0; inbox < 3; inbox++) {
            t.due("other totals", 0, x.total(inbox));
        }
    }

    /** The answers are free then, but LANGUAGE.md rule 7 still asks every call to end. */
    private static void pastTheLastPromisedCall() {
        LinkStack x = new LinkStack();
        for (int n = 0; n < 70000; n++) {
            x.write(0, n & 255);
            x.post(0, 0);
            x.disturb(0, n % 16, n % 4);
            x.restart(n % 2);
            x.settle();
            x.take(1);
        }
        t.due("it still works", 70000, x.total(1));
    }
}
