/** The boundary cases of the promises 1 to 15, a test for each sentence that names one. */
public final class PromiseBoundariesTest {
    private static final int BAD = LinkStack.BAD;
    private static final int FULL = LinkStack.FULL;
    private static final int PORTS = 4;
    private static final Due t = new Due();

    public static void main(String[] args) {
        promise1NothingIsThere();
        promise2WriteAnswersTheLength();
        promise2WriteBadEnd();
        promise2WriteBadByte();
        promise2WriteFull();
        promise2WriteOrderOfTests();
        promise3WipeAnswersTheLengthItHad();
        promise3WipeEmptiesTheDraft();
        promise3WipeBadEnd();
        promise4PostAnswersTheNumberWaiting();
        promise4PostEmptiesTheDraft();
        promise4PostBadEnd();
        promise4PostBadChannel();
        promise4PostFullChangesNothing();
        promise4PostOrderOfTests();
        promise5DisturbInRange();
        promise5DisturbOutOfRange();
        promise5DisturbPastTwelveOrders();
        promise6RestartForgetsNoneThatIsFull();
        promise6RestartForgetsNoneThatIsEmpty();
        promise6RestartBadEnd();
        promise7SettleNothing();
        promise7SettleTheMost();
        promise7SettleTheLastPlace();
        promise8WaitingFromNoneToEight();
        promise8WaitingBad();
        promise9ArrivedFromNoneToFive();
        promise9ArrivedBad();
        promise10LengthOfFirstAndLast();
        promise10LengthOfNone();
        promise11ByteFirstAndLast();
        promise11ByteOfNone();
        promise11ByteOfAnOldMessage();
        promise12TakeUntilEmpty();
        promise12TakeEmptyMessage();
        promise12TakeOfNone();
        promise13DraftFromNoneToFull();
        promise13DraftBad();
        promise14SettledAtTheLastPlace();
        promise14SettledListByList();
        promise15TotalCountsThoseTakenOut();
        promise15TotalBad();
        t.end();
    }

    private static LinkStack withDraft(int e, int length, int first) {
        LinkStack x = new LinkStack();
        for (int n = 0; n < length; n++) {
            x.write(e, first + n);
        }
        return x;
    }

    /** Numbers the messages through, from those in the inboxes to those in the waiting lists. */
    private static LinkStack withMessages(int arrived, int waiting) {
        LinkStack x = new LinkStack();
        for (int n = 0; n < arrived; n++) {
            sendNumber(x, n);
        }
        x.settle();
        for (int n = arrived; n < arrived + waiting; n++) {
            sendNumber(x, n);
        }
        return x;
    }

    private static void sendNumber(LinkStack x, int n) {
        for (int port = 0; port < PORTS; port++) {
            Messages.sendFrom(x, port, lengthOf(n), firstOf(port, n));
        }
    }

    private static int lengthOf(int n) {
        return 1 + n % 3;
    }

    private static int firstOf(int port, int n) {
        return 60 * port + 4 * n;
    }

    private static void holdsNumber(LinkStack x, int inbox, int i, int n) {
        Messages.holds(t, x, inbox, i, lengthOf(n), firstOf(inbox ^ 1, n));
    }

    private static void promise1NothingIsThere() {
        t.about("1: Nothing written, posted or arrived");
        LinkStack x = new LinkStack();
        for (int port = 0; port < PORTS; port++) {
            t.due("draft", 0, x.draft(port % 2));
            t.due("waiting", 0, Messages.waitingAt(x, port));
            t.due("arrived", 0, x.arrived(port));
            t.due("total", 0, x.total(port));
            t.due("length", BAD, x.length(port, 0));
            t.due("byteAt", BAD, x.byteAt(port, 0, 0));
            t.due("take", BAD, x.take(port));
        }
        t.due("wipe", 0, x.wipe(0));
        t.due("wipe", 0, x.wipe(1));
        t.due("settled", true, x.settled());
        t.due("settle", 0, x.settle());
    }

    private static void promise2WriteAnswersTheLength() {
        t.about("2: Appends a byte to the draft of end e and answers its length");
        for (int e = 0; e < 2; e++) {
            LinkStack x = new LinkStack();
            for (int n = 1; n <= 24; n++) {
                t.due("write " + n, n, x.write(e, 200 + n));
            }
            x.post(e, 0);
            t.due("first of the next draft", 1, x.write(e, 0));
            x.settle();
            Messages.holds(t, x, 1 - e, 0, 24, 201);
        }
    }

    private static void promise2WriteBadEnd() {
        t.about("2: BAD when e is not 0 or 1");
        LinkStack x = new LinkStack();
        for (int wrong : Messages.outside(1)) {
            t.due("write(" + wrong + ", 0)", BAD, x.write(wrong, 0));
            t.due("write(" + wrong + ", 256)", BAD, x.write(wrong, 256));
        }
        t.due("draft 0", 0, x.draft(0));
        t.due("draft 1", 0, x.draft(1));
    }

    private static void promise2WriteBadByte() {
        t.about("2: BAD when b is not 0 .. 255");
        for (int e = 0; e < 2; e++) {
            LinkStack x = new LinkStack();
            t.due("write 0", 1, x.write(e, 0));
            for (int wrong : Messages.outside(255)) {
                t.due("write " + wrong, BAD, x.write(e, wrong));
            }
            t.due("write 255", 2, x.write(e, 255));
            x.post(e, 1);
            x.settle();
            int inbox = 3 - e;
            t.due("byte 0", 0, x.byteAt(inbox, 0, 0));
            t.due("byte 1", 255, x.byteAt(inbox, 0, 1));
            t.due("length", 2, x.length(inbox, 0));
        }
    }

    private static void promise2WriteFull() {
        t.about("2: FULL when it has 24");
        for (int e = 0; e < 2; e++) {
            LinkStack x = withDraft(e, 23, 10);
            t.due("the last byte", 24, x.write(e, 33));
            for (int n = 0; n < 3; n++) {
                t.due("one more", FULL, x.write(e, 99));
                t.due("draft", 24, x.draft(e));
            }
            x.post(e, 0);
            x.settle();
            Messages.holds(t, x, 1 - e, 0, 24, 10);
        }
    }

    private static void promise2WriteOrderOfTests() {
        t.about("2: BAD, then FULL (tested in this order)");
        LinkStack x = withDraft(0, 24, 0);
        for (int wrong : Messages.outside(255)) {
            t.due("write(0, " + wrong + ")", BAD, x.write(0, wrong));
        }
        for (int wrong : Messages.outside(1)) {
            t.due("write(" + wrong + ", 0)", BAD, x.write(wrong, 0));
        }
        t.due("write(0, 0)", FULL, x.write(0, 0));
        t.due("write(0, 255)", FULL, x.write(0, 255));
    }

    private static void promise3WipeAnswersTheLengthItHad() {
        t.about("3: answers the length it had");
        for (int e = 0; e < 2; e++) {
            for (int length = 0; length <= 24; length++) {
                LinkStack x = withDraft(e, length, 0);
                t.due("wipe", length, x.wipe(e));
                t.due("wipe again", 0, x.wipe(e));
            }
            LinkStack x = withDraft(e, 24, 0);
            x.write(e, 0);
            t.due("wipe after a refused write", 24, x.wipe(e));
        }
    }

    private static void promise3WipeEmptiesTheDraft() {
        t.about("3: Empties the draft of end e");
        for (int e = 0; e < 2; e++) {
            LinkStack x = withDraft(e, 24, 0);
            x.write(1 - e, 70);
            x.wipe(e);
            t.due("draft", 0, x.draft(e));
            t.due("the other draft", 1, x.draft(1 - e));
            t.due("first byte", 1, x.write(e, 90));
            x.post(e, 0);
            x.settle();
            Messages.holds(t, x, 1 - e, 0, 1, 90);
            for (int n = 1; n <= 24; n++) {
                t.due("room for 24 again", n, x.write(e, n));
            }
        }
    }

    private static void promise3WipeBadEnd() {
        t.about("3: BAD when e is not 0 or 1");
        LinkStack x = withDraft(0, 24, 0);
        x.write(1, 1);
        for (int wrong : Messages.outside(1)) {
            t.due("wipe " + wrong, BAD, x.wipe(wrong));
        }
        t.due("draft 0", 24, x.draft(0));
        t.due("draft 1", 1, x.draft(1));
    }

    private static void promise4PostAnswersTheNumberWaiting() {
        t.about("4: Answers the number of messages in the waiting list");
        for (int port = 0; port < PORTS; port++) {
            LinkStack x = new LinkStack();
            for (int n = 1; n <= 8; n++) {
                t.due("post", n, Messages.sendFrom(x, port, n % 3, n));
            }
            x.settle();
            t.due("post after five arrived", 4, Messages.sendFrom(x, port, 1, 0));
        }
    }

    private static void promise4PostEmptiesTheDraft() {
        t.about("4: the draft is empty then");
        for (int port = 0; port < PORTS; port++) {
            int e = port % 2;
            for (int length = 0; length <= 24; length += 12) {
                LinkStack x = withDraft(e, length, 0);
                x.write(1 - e, 5);
                x.post(e, port / 2);
                t.due("draft", 0, x.draft(e));
                t.due("the other draft", 1, x.draft(1 - e));
                t.due("wipe", 0, x.wipe(e));
                Messages.sendFrom(x, port, 1, 60);
                x.settle();
                Messages.holds(t, x, port ^ 1, 0, length, 0);
                Messages.holds(t, x, port ^ 1, 1, 1, 60);
            }
        }
    }

    private static void promise4PostBadEnd() {
        t.about("4: BAD when e is not 0 or 1");
        LinkStack x = withDraft(0, 2, 0);
        for (int wrong : Messages.outside(1)) {
            t.due("post(" + wrong + ", 0)", BAD, x.post(wrong, 0));
            t.due("post(" + wrong + ", 1)", BAD, x.post(wrong, 1));
        }
        t.due("draft", 2, x.draft(0));
        t.due("nothing was posted", true, x.settled());
    }

    private static void promise4PostBadChannel() {
        t.about("4: BAD when channel is not 0 or 1");
        LinkStack x = withDraft(1, 2, 0);
        for (int wrong : Messages.outside(1)) {
            t.due("post(0, " + wrong + ")", BAD, x.post(0, wrong));
            t.due("post(1, " + wrong + ")", BAD, x.post(1, wrong));
            t.due("post(" + wrong + ", " + wrong + ")", BAD, x.post(wrong, wrong));
        }
        t.due("draft", 2, x.draft(1));
        t.due("nothing was posted", true, x.settled());
    }

    private static void promise4PostFullChangesNothing() {
        t.about("4: FULL, changing nothing, when the list has eight");
        for (int port = 0; port < PORTS; port++) {
            for (int length = 0; length <= 24; length += 12) {
                LinkStack x = new LinkStack();
                for (int n = 0; n < 8; n++) {
                    Messages.sendFrom(x, port, 1, 10 * n);
                }
                t.due("ninth", FULL, Messages.sendFrom(x, port, length, 100));
                t.due("tenth", FULL, x.post(port % 2, port / 2));
                t.due("draft", length, x.draft(port % 2));
                t.due("waiting", 8, Messages.waitingAt(x, port));
                t.due("the other channel takes it", 1, x.post(port % 2, 1 - port / 2));
                t.due("settle", 6, x.settle());
                Messages.holds(t, x, port ^ 3, 0, length, 100);
                for (int n = 0; n < 8; n++) {
                    Messages.holds(t, x, port ^ 1, 0, 1, 10 * n);
                    x.take(port ^ 1);
                    x.settle();
                }
                t.due("the ninth never came", 8, x.total(port ^ 1));
            }
        }
    }

    private static void promise4PostOrderOfTests() {
        t.about("4: BAD, then FULL (tested in this order)");
        LinkStack x = withMessages(0, 8);
        for (int wrong : Messages.outside(1)) {
            for (int n = 0; n < 2; n++) {
                t.due("post(" + wrong + ", " + n + ")", BAD, x.post(wrong, n));
                t.due("post(" + n + ", " + wrong + ")", BAD, x.post(n, wrong));
            }
        }
        for (int port = 0; port < PORTS; port++) {
            t.due("post", FULL, x.post(port % 2, port / 2));
        }
    }

    private static void promise5DisturbInRange() {
        t.about("5: piece 0 up to 15, kind 0 to 3; answers true");
        for (int e = 0; e < 2; e++) {
            for (int k = 0; k <= 15; k++) {
                for (int kind = 0; kind <= 3; kind++) {
                    LinkStack x = new LinkStack();
                    t.due("disturb(" + e + ", " + k + ", " + kind + ")", true, x.disturb(e, k, kind));
                }
            }
        }
    }

    private static void promise5DisturbOutOfRange() {
        t.about("5: false when e, k or kind is out of range");
        LinkStack x = new LinkStack();
        for (int wrong : Messages.outside(1)) {
            t.due("end " + wrong, false, x.disturb(wrong, 0, 0));
            t.due("all " + wrong, false, x.disturb(wrong, 16, 4));
        }
        for (int e = 0; e < 2; e++) {
            for (int wrong : Messages.outside(15)) {
                t.due("piece " + wrong, false, x.disturb(e, wrong, 0));
                t.due("piece " + wrong, false, x.disturb(e, wrong, 3));
            }
            for (int wrong : Messages.outside(3)) {
                t.due("kind " + wrong, false, x.disturb(e, 0, wrong));
                t.due("kind " + wrong, false, x.disturb(e, 15, wrong));
            }
        }
    }

    /** That just twelve are remembered no answer shows: LinkInsideTest looks at it. */
    private static void promise5DisturbPastTwelveOrders() {
        t.about("5: The link remembers twelve such orders for each end, and forgets others");
        LinkStack x = new LinkStack();
        for (int n = 1; n <= 40; n++) {
            t.due("order " + n, true, x.disturb(0, n % 16, n % 4));
            t.due("order " + n, true, x.disturb(1, 15, n % 4));
            t.due("still out of range", false, x.disturb(0, 16, 0));
        }
        sendNumber(x, 3);
        t.due("settle", 4, x.settle());
        for (int inbox = 0; inbox < PORTS; inbox++) {
            holdsNumber(x, inbox, 0, 3);
        }
    }

    private static void promise6RestartForgetsNoneThatIsFull() {
        t.about("6: forgets none of its drafts, waiting lists and inboxes: full ones");
        for (int who = 1; who < 4; who++) {
            LinkStack x = withMessages(5, 8);
            for (int n = 0; n < 24; n++) {
                x.write(0, n);
                x.write(1, 100 + n);
            }
            for (int e = 0; e < 2; e++) {
                if (((who >> e) & 1) == 1) {
                    t.due("restart", true, x.restart(e));
                }
            }
            t.due("draft 0", 24, x.draft(0));
            t.due("draft 1", 24, x.draft(1));
            t.due("settle", 0, x.settle());
            for (int port = 0; port < PORTS; port++) {
                t.due("waiting", 8, Messages.waitingAt(x, port));
                t.due("arrived", 5, x.arrived(port));
                t.due("total", 5, x.total(port));
                t.due("post", FULL, x.post(port % 2, port / 2));
            }
            for (int n = 0; n < 13; n++) {
                for (int inbox = 0; inbox < PORTS; inbox++) {
                    t.due("first byte", firstOf(inbox ^ 1, n), x.byteAt(inbox, 0, 0));
                    t.due("take", lengthOf(n), x.take(inbox));
                }
                t.due("settle", n < 8 ? 4 : 0, x.settle());
            }
            x.post(0, 0);
            x.post(1, 1);
            x.settle();
            Messages.holds(t, x, 1, 0, 24, 0);
            Messages.holds(t, x, 2, 0, 24, 100);
        }
    }

    private static void promise6RestartForgetsNoneThatIsEmpty() {
        t.about("6: forgets none of its drafts, waiting lists and inboxes: empty ones and messages of no bytes");
        LinkStack x = new LinkStack();
        x.restart(0);
        x.restart(1);
        for (int port = 0; port < PORTS; port++) {
            t.due("draft", 0, x.draft(port % 2));
            t.due("waiting", 0, Messages.waitingAt(x, port));
            t.due("take", BAD, x.take(port));
        }
        t.due("settle", 0, x.settle());
        x.post(0, 1);
        x.restart(0);
        x.restart(1);
        t.due("waiting", 1, x.waiting(0, 1));
        t.due("settle", 1, x.settle());
        x.restart(0);
        x.restart(1);
        t.due("settle", 0, x.settle());
        t.due("length", 0, x.length(3, 0));
        t.due("take", 0, x.take(3));
    }

    private static void promise6RestartBadEnd() {
        t.about("6: Answers true; false when e is not 0 or 1");
        LinkStack x = new LinkStack();
        t.due("restart 0", true, x.restart(0));
        t.due("restart 1", true, x.restart(1));
        for (int wrong : Messages.outside(1)) {
            t.due("restart " + wrong, false, x.restart(wrong));
        }
    }

    private static void promise7SettleNothing() {
        t.about("7: answers how many messages arrived: none");
        LinkStack x = new LinkStack();
        t.due("new", 0, x.settle());
        x.write(0, 1);
        t.due("only written", 0, x.settle());
        x = withMessages(5, 8);
        t.due("all inboxes full", 0, x.settle());
        x = withMessages(5, 0);
        for (int inbox = 0; inbox < PORTS; inbox++) {
            x.take(inbox);
        }
        t.due("room, but nothing waits", 0, x.settle());
    }

    private static void promise7SettleTheMost() {
        t.about("7: answers how many messages arrived: twenty");
        LinkStack x = withMessages(0, 8);
        t.due("settle", 20, x.settle());
        t.due("settle again", 0, x.settle());
        for (int inbox = 0; inbox < PORTS; inbox++) {
            for (int i = 0; i < 5; i++) {
                holdsNumber(x, inbox, i, i);
            }
        }
    }

    private static void promise7SettleTheLastPlace() {
        t.about("7: answers how many messages arrived: one, in an inbox of four");
        for (int port = 0; port < PORTS; port++) {
            LinkStack x = withMessages(4, 0);
            Messages.sendFrom(x, port, 2, 77);
            Messages.sendFrom(x, port, 2, 88);
            t.due("settle", 1, x.settle());
            Messages.holds(t, x, port ^ 1, 4, 2, 77);
            t.due("waiting", 1, Messages.waitingAt(x, port));
        }
    }

    private static void promise8WaitingFromNoneToEight() {
        t.about("8: The number of messages in the waiting list of end e for a channel");
        for (int port = 0; port < PORTS; port++) {
            LinkStack x = new LinkStack();
            for (int n = 0; n <= 9; n++) {
                for (int other = 0; other < PORTS; other++) {
                    int due = other == port ? (n < 9 ? n : 8) : 0;
                    t.due("waiting", due, Messages.waitingAt(x, other));
                }
                x.post(port % 2, port / 2);
            }
            x.settle();
            t.due("five have left", 3, Messages.waitingAt(x, port));
        }
    }

    private static void promise8WaitingBad() {
        t.about("8: BAD when one is not 0 or 1");
        LinkStack x = withMessages(0, 8);
        for (int wrong : Messages.outside(1)) {
            for (int n = 0; n < 2; n++) {
                t.due("waiting(" + wrong + ", " + n + ")", BAD, x.waiting(wrong, n));
                t.due("waiting(" + n + ", " + wrong + ")", BAD, x.waiting(n, wrong));
            }
            t.due("waiting(" + wrong + ", " + wrong + ")", BAD, x.waiting(wrong, wrong));
        }
    }

    private static void promise9ArrivedFromNoneToFive() {
        t.about("9: The number of messages in an inbox");
        for (int inbox = 0; inbox < PORTS; inbox++) {
            LinkStack x = new LinkStack();
            for (int n = 0; n <= 7; n++) {
                t.due("arrived", n < 5 ? n : 5, x.arrived(inbox));
                Messages.sendFrom(x, inbox ^ 1, 1, n);
                x.settle();
            }
            for (int n = 4; n >= 0; n--) {
                x.take(inbox);
                t.due("arrived", n, x.arrived(inbox));
            }
            x.take(inbox);
            t.due("not below none", 0, x.arrived(inbox));
        }
    }

    private static void promise9ArrivedBad() {
        t.about("9: BAD when it is not 0 .. 3");
        LinkStack x = withMessages(5, 1);
        for (int wrong : Messages.outside(3)) {
            t.due("arrived " + wrong, BAD, x.arrived(wrong));
        }
        t.due("arrived 0", 5, x.arrived(0));
        t.due("arrived 3", 5, x.arrived(3));
    }

    private static void promise10LengthOfFirstAndLast() {
        t.about("10: The length of message i (0 the first) of an inbox");
        for (int port = 0; port < PORTS; port++) {
            LinkStack x = new LinkStack();
            int[] lengths = {0, 24, 1, 0, 23};
            for (int length : lengths) {
                Messages.sendFrom(x, port, length, 0);
            }
            x.settle();
            for (int i = 0; i < 5; i++) {
                t.due("length " + i, lengths[i], x.length(port ^ 1, i));
            }
            x.take(port ^ 1);
            t.due("the second is the first now", 24, x.length(port ^ 1, 0));
            t.due("the last", 23, x.length(port ^ 1, 3));
        }
    }

    private static void promise10LengthOfNone() {
        t.about("10: BAD when there is none");
        for (int held = 0; held <= 5; held++) {
            LinkStack x = withMessages(held, 1);
            for (int inbox = 0; inbox < PORTS; inbox++) {
                for (int i = held; i <= 20; i++) {
                    t.due(held + " held, message " + i, BAD, x.length(inbox, i));
                }
                for (int i : Messages.outside(4)) {
                    t.due(held + " held, message " + i, BAD, x.length(inbox, i));
                }
            }
            for (int wrong : Messages.outside(3)) {
                t.due("inbox " + wrong, BAD, x.length(wrong, 0));
            }
        }
        LinkStack x = withMessages(5, 0);
        x.take(2);
        t.due("the place of the one taken out", BAD, x.length(2, 4));
        t.due("before the first", BAD, x.length(2, -1));
    }

    private static void promise11ByteFirstAndLast() {
        t.about("11: Byte k of message i of an inbox");
        for (int port = 0; port < PORTS; port++) {
            LinkStack x = new LinkStack();
            for (int n = 0; n < 5; n++) {
                Messages.sendFrom(x, port, 24, 48 * n);
            }
            x.settle();
            for (int n = 0; n < 5; n++) {
                t.due("first", 48 * n, x.byteAt(port ^ 1, n, 0));
                t.due("last", 48 * n + 23, x.byteAt(port ^ 1, n, 23));
            }
        }
    }

    private static void promise11ByteOfNone() {
        t.about("11: BAD when there is none");
        for (int held = 0; held <= 5; held++) {
            LinkStack x = withMessages(held, 1);
            for (int inbox = 0; inbox < PORTS; inbox++) {
                for (int i = 0; i < held; i++) {
                    holdsNumber(x, inbox, i, i);
                }
                t.due(held + " held, message " + held, BAD, x.byteAt(inbox, held, 0));
                for (int i : Messages.outside(4)) {
                    t.due(held + " held, message " + i, BAD, x.byteAt(inbox, i, 0));
                }
            }
            for (int wrong : Messages.outside(3)) {
                t.due("inbox " + wrong, BAD, x.byteAt(wrong, 0, 0));
            }
        }
        LinkStack x = new LinkStack();
        for (int n = 0; n < 5; n++) {
            Messages.send(x, 0, 0, 24, 0);
        }
        Messages.send(x, 0, 1, 0, 0);
        x.settle();
        for (int wrong : Messages.outside(23)) {
            t.due("byte " + wrong + " of 24", BAD, x.byteAt(1, 2, wrong));
        }
        t.due("byte of a message of none", BAD, x.byteAt(3, 0, 0));
        t.due("byte before it", BAD, x.byteAt(3, 0, -1));
    }

    /** The short messages come to lie wherever the long ones were. */
    private static void promise11ByteOfAnOldMessage() {
        t.about("11: BAD when there is none: not a byte of a longer message that was there before");
        for (int port = 0; port < PORTS; port++) {
            LinkStack x = new LinkStack();
            for (int n = 0; n < 5; n++) {
                Messages.sendFrom(x, port, 12, 10 * n);
                x.settle();
            }
            for (int n = 0; n < 5; n++) {
                x.take(port ^ 1);
                Messages.sendFrom(x, port, n, 100);
                x.settle();
            }
            for (int n = 0; n < 5; n++) {
                Messages.holds(t, x, port ^ 1, n, n, 100);
                t.due("old byte", BAD, x.byteAt(port ^ 1, n, 11));
            }
        }
    }

    private static void promise12TakeUntilEmpty() {
        t.about("12: Takes the first message out of an inbox and answers its length");
        for (int inbox = 0; inbox < PORTS; inbox++) {
            LinkStack x = withMessages(5, 0);
            for (int n = 0; n < 5; n++) {
                holdsNumber(x, inbox, 0, n);
                t.due("take", lengthOf(n), x.take(inbox));
                t.due("arrived", 4 - n, x.arrived(inbox));
            }
            t.due("take from empty", BAD, x.take(inbox));
            t.due("the next inbox is left", 5, x.arrived((inbox + 1) % PORTS));
        }
    }

    private static void promise12TakeEmptyMessage() {
        t.about("12: answers its length: 0 for a message of no bytes, 24 for the longest");
        for (int port = 0; port < PORTS; port++) {
            LinkStack x = new LinkStack();
            Messages.sendFrom(x, port, 0, 0);
            Messages.sendFrom(x, port, 24, 0);
            x.settle();
            t.due("take", 0, x.take(port ^ 1));
            t.due("arrived", 1, x.arrived(port ^ 1));
            t.due("take", 24, x.take(port ^ 1));
        }
    }

    private static void promise12TakeOfNone() {
        t.about("12: BAD when there is none");
        LinkStack x = withMessages(0, 1);
        for (int inbox = 0; inbox < PORTS; inbox++) {
            t.due("posted, not arrived", BAD, x.take(inbox));
        }
        x.settle();
        for (int inbox = 0; inbox < PORTS; inbox++) {
            t.due("the only one", 1, x.take(inbox));
            t.due("take", BAD, x.take(inbox));
            t.due("take again", BAD, x.take(inbox));
            t.due("arrived", 0, x.arrived(inbox));
            t.due("total", 1, x.total(inbox));
        }
        x = withMessages(5, 0);
        for (int wrong : Messages.outside(3)) {
            t.due("take from " + wrong, BAD, x.take(wrong));
        }
        for (int inbox = 0; inbox < PORTS; inbox++) {
            t.due("arrived", 5, x.arrived(inbox));
        }
    }

    private static void promise13DraftFromNoneToFull() {
        t.about("13: The length of the draft of end e");
        for (int e = 0; e < 2; e++) {
            LinkStack x = new LinkStack();
            for (int n = 0; n <= 25; n++) {
                t.due("draft", n < 25 ? n : 24, x.draft(e));
                t.due("the other draft", 0, x.draft(1 - e));
                x.write(e, n);
            }
            x.post(e, 0);
            t.due("posted", 0, x.draft(e));
        }
    }

    private static void promise13DraftBad() {
        t.about("13: BAD when e is not 0 or 1");
        LinkStack x = withDraft(1, 24, 0);
        for (int wrong : Messages.outside(1)) {
            t.due("draft " + wrong, BAD, x.draft(wrong));
        }
    }

    private static void promise14SettledAtTheLastPlace() {
        t.about("14: Whether nothing would arrive: an inbox that is full, or has one place");
        for (int port = 0; port < PORTS; port++) {
            for (int held = 0; held <= 5; held++) {
                LinkStack x = withMessages(held, 0);
                t.due("nothing waits", true, x.settled());
                for (int n = 1; n <= 8; n++) {
                    x.post(port % 2, port / 2);
                    t.due(held + " held, " + n + " wait", held == 5, x.settled());
                }
                x.settle();
                t.due("settled", true, x.settled());
                x.take(port ^ 1);
                t.due("room for one of those that wait", 8 - (5 - held) == 0, x.settled());
            }
        }
    }

    private static void promise14SettledListByList() {
        t.about("14: Whether nothing would arrive: each list alone, beside others that are held up");
        for (int free = 0; free < 16; free++) {
            LinkStack x = withMessages(5, 8);
            t.due("all held up", true, x.settled());
            for (int inbox = 0; inbox < PORTS; inbox++) {
                if (((free >> inbox) & 1) == 1) {
                    x.take(inbox);
                }
            }
            t.due("inboxes with room: " + free, free == 0, x.settled());
            t.due("settle", Integer.bitCount(free), x.settle());
            t.due("settled", true, x.settled());
        }
        LinkStack x = withDraft(0, 24, 0);
        t.due("a draft is not posted", true, x.settled());
    }

    private static void promise15TotalCountsThoseTakenOut() {
        t.about("15: The number of messages that have arrived in an inbox so far, those taken out too");
        for (int inbox = 0; inbox < PORTS; inbox++) {
            LinkStack x = new LinkStack();
            t.due("none yet", 0, x.total(inbox));
            for (int n = 1; n <= 8; n++) {
                x.post(1 - inbox % 2, inbox / 2);
                t.due("posted only", 0, x.total(inbox));
            }
            x.settle();
            t.due("inbox full", 5, x.total(inbox));
            for (int n = 1; n <= 8; n++) {
                x.take(inbox);
                t.due("taken", n < 4 ? 4 + n : 8, x.total(inbox));
                x.settle();
                t.due("settled", n < 4 ? 5 + n : 8, x.total(inbox));
            }
            t.due("inbox empty", 0, x.arrived(inbox));
            x.take(inbox);
            t.due("refused take", 8, x.total(inbox));
            t.due("the other way", 0, x.total(inbox ^ 1));
        }
    }

    private static void promise15TotalBad() {
        t.about("15: BAD when it is not 0 .. 3");
        LinkStack x = withMessages(5, 0);
        for (int wrong : Messages.outside(3)) {
            t.due("total " + wrong, BAD, x.total(wrong));
        }
        t.due("total 0", 5, x.total(0));
        t.due("total 3", 5, x.total(3));
    }
}
