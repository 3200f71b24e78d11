/** The boundary cases of the document's "What it is" and "Terms", a test for each sentence that names one. */
public final class TermsBoundariesTest {
    private static final int BAD = LinkStack.BAD;
    private static final int FULL = LinkStack.FULL;
    private static final int PORTS = 4;
    private static final Due t = new Due();

    public static void main(String[] args) {
        lastPromisedCall();
        mostMessagesInTheCallsPromised();
        endsAndChannels();
        endAndChannelAreLookedAtApart();
        messageOfEveryLength();
        messageOfEveryByte();
        eachDraftIsItsOwn();
        eachWaitingListIsItsOwn();
        eachInboxIsItsOwn();
        postedGoesToTheEndOfTheList();
        arrivedGoesToTheEndOfTheInbox();
        inboxHoldsFive();
        nothingArrivesInAFullInbox();
        takingMakesRoomForJustAsMany();
        waitingListHoldsEight();
        settlingGoesOnUntilEmptyOrFull();
        settlingComesAboutOnTheWorstLink();
        settlingComesAboutWhateverBefallsTheFirstPieces();
        noAnswerDependsOnTheLink();
        inboxNumbers();
        t.end();
    }

    private static void lastPromisedCall() {
        t.about("at most 512 calls: the 512th still answers as promised");
        for (int last = 0; last < 14; last++) {
            LinkStack x = new LinkStack();
            for (int n = 1; n <= 127; n++) {
                x.write(0, n);
                x.post(0, 0);
                x.settle();
                x.take(1);
            }
            x.write(0, 200);
            x.post(0, 0);
            x.write(1, 201);
            switch (last) {
                case 0: t.due("write", 2, x.write(1, 255)); break;
                case 1: t.due("wipe", 1, x.wipe(1)); break;
                case 2: t.due("post", 1, x.post(1, 1)); break;
                case 3: t.due("disturb", true, x.disturb(1, 15, 3)); break;
                case 4: t.due("restart", true, x.restart(1)); break;
                case 5: t.due("settle", 1, x.settle()); break;
                case 6: t.due("waiting", 1, x.waiting(0, 0)); break;
                case 7: t.due("arrived", 0, x.arrived(1)); break;
                case 8: t.due("length", BAD, x.length(1, 0)); break;
                case 9: t.due("byteAt", BAD, x.byteAt(1, 0, 0)); break;
                case 10: t.due("take", BAD, x.take(1)); break;
                case 11: t.due("draft", 1, x.draft(1)); break;
                case 12: t.due("settled", false, x.settled()); break;
                default: t.due("total", 127, x.total(1)); break;
            }
        }
    }

    private static void mostMessagesInTheCallsPromised() {
        t.about("at most 512 calls: as many messages as they let through one inbox");
        LinkStack x = new LinkStack();
        int calls = 0;
        int total = 0;
        while (calls + 11 <= 511) {
            for (int n = 0; n < 5; n++) {
                x.post(1, 0);
            }
            t.due("settle", 5, x.settle());
            for (int n = 0; n < 5; n++) {
                t.due("take", 0, x.take(0));
            }
            calls += 11;
            total += 5;
        }
        t.due("total", total, x.total(0));
        t.due("total is what was meant", 230, total);
    }

    private static void endsAndChannels() {
        t.about("There are the ENDS 0 and 1, and the CHANNELS 0 and 1");
        LinkStack x = new LinkStack();
        for (int n = 0; n < 2; n++) {
            t.due("draft of end " + n, 0, x.draft(n));
            t.due("end " + n, 0, x.waiting(n, 0));
            t.due("channel " + n, 0, x.waiting(0, n));
        }
        for (int wrong : Messages.outside(1)) {
            t.due("draft of end " + wrong, BAD, x.draft(wrong));
            t.due("end " + wrong, BAD, x.waiting(wrong, 0));
            t.due("channel " + wrong, BAD, x.waiting(0, wrong));
        }
    }

    private static void endAndChannelAreLookedAtApart() {
        t.about("ENDS 0 and 1, CHANNELS 0 and 1, also where end + 2 * channel would be 0 .. 3");
        for (int channel : Messages.outside(1)) {
            for (int inbox = 0; inbox < PORTS; inbox++) {
                LinkStack x = new LinkStack();
                int e = inbox - 2 * channel;
                t.due("post(" + e + ", " + channel + ")", BAD, x.post(e, channel));
                t.due("waiting(" + e + ", " + channel + ")", BAD, x.waiting(e, channel));
                t.due("nothing was posted", 0, x.settle());
            }
        }
    }

    private static void messageOfEveryLength() {
        t.about("A MESSAGE is a list of at most 24 bytes");
        for (int port = 0; port < PORTS; port++) {
            for (int length = 0; length <= 24; length++) {
                LinkStack x = new LinkStack();
                t.due("post", 1, Messages.sendFrom(x, port, length, 7 * length));
                t.due("settle", 1, x.settle());
                Messages.holds(t, x, port ^ 1, 0, length, 7 * length);
                t.due("take", length, x.take(port ^ 1));
            }
            LinkStack x = new LinkStack();
            t.due("post after 25 writes", 1, Messages.sendFrom(x, port, 25, 100));
            x.settle();
            Messages.holds(t, x, port ^ 1, 0, 24, 100);
        }
    }

    private static void messageOfEveryByte() {
        t.about("bytes (0 .. 255)");
        for (int b = 0; b < 256; b++) {
            for (int length = 1; length <= 24; length += 23) {
                LinkStack x = new LinkStack();
                for (int i = 0; i < length; i++) {
                    x.write(1, b);
                }
                x.post(1, 1);
                x.settle();
                for (int i = 0; i < length; i++) {
                    t.due("byte " + i, b, x.byteAt(2, 0, i));
                }
            }
        }
    }

    private static void eachDraftIsItsOwn() {
        t.about("Every end has a DRAFT");
        for (int e = 0; e < 2; e++) {
            LinkStack x = new LinkStack();
            x.write(1 - e, 1);
            for (int n = 0; n < 24; n++) {
                x.write(e, 100 + n);
            }
            t.due("full", FULL, x.write(e, 9));
            t.due("the other is not", 2, x.write(1 - e, 2));
            x.post(1 - e, 0);
            t.due("posting the other leaves it", 24, x.draft(e));
            x.post(e, 0);
            x.settle();
            Messages.holds(t, x, e, 0, 2, 1);
            Messages.holds(t, x, 1 - e, 0, 24, 100);
        }
    }

    private static void eachWaitingListIsItsOwn() {
        t.about("Every end has for every channel a WAITING list");
        for (int port = 0; port < PORTS; port++) {
            LinkStack x = new LinkStack();
            for (int n = 0; n < 8; n++) {
                x.post(port % 2, port / 2);
            }
            for (int other = 0; other < PORTS; other++) {
                t.due("waiting at " + other, other == port ? 8 : 0, Messages.waitingAt(x, other));
                t.due("post at " + other, other == port ? FULL : 1, x.post(other % 2, other / 2));
            }
        }
    }

    private static void eachInboxIsItsOwn() {
        t.about("Every end has for every channel an INBOX");
        for (int inbox = 0; inbox < PORTS; inbox++) {
            LinkStack x = new LinkStack();
            for (int n = 0; n < 6; n++) {
                Messages.sendFrom(x, inbox ^ 1, 24, 10 * n);
            }
            x.settle();
            for (int other = 0; other < PORTS; other++) {
                t.due("arrived in " + other, other == inbox ? 5 : 0, x.arrived(other));
                t.due("total of " + other, other == inbox ? 5 : 0, x.total(other));
                t.due("message of " + other, other == inbox ? 24 : BAD, x.length(other, 0));
            }
        }
    }

    /** With one message a step the list begins at each of its places, and its end goes round. */
    private static void postedGoesToTheEndOfTheList() {
        t.about("A message that is posted goes to the end of the waiting list, wherever that begins");
        for (int port = 0; port < PORTS; port++) {
            for (int gone = 0; gone <= 17; gone++) {
                LinkStack x = new LinkStack();
                for (int n = 0; n < gone; n++) {
                    Messages.sendFrom(x, port, 1, 250);
                    x.settle();
                    x.take(port ^ 1);
                }
                for (int n = 1; n <= 8; n++) {
                    t.due("post", n, Messages.sendFrom(x, port, n % 4, 10 * n));
                }
                for (int n = 1; n <= 8; n++) {
                    x.settle();
                    Messages.holds(t, x, port ^ 1, 0, n % 4, 10 * n);
                    t.due("take", n % 4, x.take(port ^ 1));
                }
                t.due("nothing else", 0, x.settle());
            }
        }
    }

    private static void arrivedGoesToTheEndOfTheInbox() {
        t.about("Messages ARRIVE in their order, at the end of the inbox, wherever that begins");
        for (int inbox = 0; inbox < PORTS; inbox++) {
            LinkStack x = new LinkStack();
            int sent = 0;
            for (int taken = 0; taken < 17; taken++) {
                while (sent < taken + 5) {
                    Messages.sendFrom(x, inbox ^ 1, 1 + sent % 2, 3 * sent);
                    t.due("settle", 1, x.settle());
                    sent++;
                }
                for (int i = 0; i < 5; i += 2) {
                    int number = taken + i;
                    Messages.holds(t, x, inbox, i, 1 + number % 2, 3 * number);
                }
                t.due("take", 1 + taken % 2, x.take(inbox));
            }
        }
    }

    private static void inboxHoldsFive() {
        t.about("An inbox holds at most five messages");
        for (int port = 0; port < PORTS; port++) {
            for (int posted = 0; posted <= 8; posted++) {
                LinkStack x = new LinkStack();
                for (int n = 0; n < posted; n++) {
                    Messages.sendFrom(x, port, 1, n);
                }
                int fit = posted < 5 ? posted : 5;
                t.due("settle", fit, x.settle());
                t.due("arrived", fit, x.arrived(port ^ 1));
                t.due("waiting", posted - fit, Messages.waitingAt(x, port));
                t.due("message 5", BAD, x.length(port ^ 1, 5));
                for (int n = 0; n < fit; n++) {
                    Messages.holds(t, x, port ^ 1, n, 1, n);
                }
            }
        }
    }

    private static void nothingArrivesInAFullInbox() {
        t.about("while it is full nothing arrives in it");
        for (int port = 0; port < PORTS; port++) {
            LinkStack x = new LinkStack();
            for (int n = 0; n < 8; n++) {
                Messages.sendFrom(x, port, 1, n);
            }
            x.settle();
            for (int round = 0; round < 8; round++) {
                x.disturb(0, round % 3, round % 4);
                x.disturb(1, 0, (round + 1) % 4);
                x.restart(round % 2);
                Messages.sendFrom(x, port, 1, 8 + round);
                t.due("settle", 0, x.settle());
                t.due("arrived", 5, x.arrived(port ^ 1));
                t.due("total", 5, x.total(port ^ 1));
                t.due("waiting", round < 5 ? 4 + round : 8, Messages.waitingAt(x, port));
            }
            for (int n = 0; n < 5; n++) {
                Messages.holds(t, x, port ^ 1, n, 1, n);
            }
        }
    }

    private static void takingMakesRoomForJustAsMany() {
        t.about("An inbox holds at most five: as many as were taken out of a full one arrive");
        for (int port = 0; port < PORTS; port++) {
            for (int taken = 0; taken <= 5; taken++) {
                LinkStack x = new LinkStack();
                for (int n = 0; n < 13; n++) {
                    Messages.sendFrom(x, port, 1, n);
                    if (n == 7) {
                        x.settle();
                    }
                }
                for (int n = 0; n < taken; n++) {
                    x.take(port ^ 1);
                }
                t.due("settle", taken, x.settle());
                t.due("arrived", 5, x.arrived(port ^ 1));
                t.due("waiting", 8 - taken, Messages.waitingAt(x, port));
                for (int n = 0; n < 5; n++) {
                    Messages.holds(t, x, port ^ 1, n, 1, taken + n);
                }
            }
        }
    }

    private static void waitingListHoldsEight() {
        t.about("Each waiting list holds at most eight messages");
        LinkStack x = new LinkStack();
        for (int n = 1; n <= 10; n++) {
            for (int port = 0; port < PORTS; port++) {
                int posted = Messages.sendFrom(x, port, 1, 10 * n + port);
                t.due("post " + n, n <= 8 ? n : FULL, posted);
                t.due("waiting", n <= 8 ? n : 8, Messages.waitingAt(x, port));
                x.wipe(port % 2);
            }
        }
        t.due("settle", 20, x.settle());
        for (int port = 0; port < PORTS; port++) {
            for (int n = 1; n <= 5; n++) {
                t.due("take", 1, x.take(port ^ 1));
            }
        }
        t.due("settle the rest", 12, x.settle());
        for (int port = 0; port < PORTS; port++) {
            for (int n = 6; n <= 8; n++) {
                Messages.holds(t, x, port ^ 1, n - 6, 1, 10 * n + port);
            }
            t.due("no ninth", 3, x.arrived(port ^ 1));
        }
    }

    /** Every mixture of lists that are empty, end with their inbox full, or stop at a full inbox. */
    private static void settlingGoesOnUntilEmptyOrFull() {
        t.about("SETTLING: until every waiting list is empty or its inbox is full");
        int[] before = {0, 4, 5};
        int[] posted = {0, 1, 5, 8};
        int mixtures = 12 * 12 * 12 * 12;
        for (int mixture = 0; mixture < mixtures; mixture++) {
            LinkStack x = new LinkStack();
            int[] there = new int[PORTS];
            int[] waits = new int[PORTS];
            int rest = mixture;
            for (int port = 0; port < PORTS; port++) {
                there[port] = before[rest % 12 / 4];
                waits[port] = posted[rest % 4];
                rest /= 12;
                postEmpty(x, port, there[port]);
            }
            x.settle();
            int due = 0;
            for (int port = 0; port < PORTS; port++) {
                postEmpty(x, port, waits[port]);
                due += fitting(there[port], waits[port]);
            }
            t.due("settle", due, x.settle());
            for (int port = 0; port < PORTS; port++) {
                int fit = fitting(there[port], waits[port]);
                t.due("arrived", there[port] + fit, x.arrived(port ^ 1));
                t.due("waiting", waits[port] - fit, Messages.waitingAt(x, port));
            }
            t.due("settled", true, x.settled());
        }
    }

    private static void postEmpty(LinkStack x, int port, int count) {
        for (int n = 0; n < count; n++) {
            x.post(port % 2, port / 2);
        }
    }

    private static int fitting(int there, int waits) {
        int room = 5 - there;
        return waits < room ? waits : room;
    }

    /** All twelve orders of both ends, of any two kinds, fall on the first pieces or on the same one. */
    private static void settlingComesAboutOnTheWorstLink() {
        t.about("Whatever was done to the link before, this always comes about");
        for (int mixture = 0; mixture < 4 * 4 * 2 * 4; mixture++) {
            int kind = mixture % 4;
            int other = mixture / 4 % 4;
            boolean apart = mixture / 16 % 2 == 0;
            int anew = mixture / 32;
            LinkStack x = new LinkStack();
            for (int port = 0; port < PORTS; port++) {
                for (int n = 0; n < 8; n++) {
                    Messages.sendFrom(x, port, 1, 10 * n + port);
                }
            }
            int[] settles = {20, 20 - 8, 0};
            for (int due : settles) {
                for (int n = 0; n < 12; n++) {
                    x.disturb(0, apart ? n : 0, n % 2 == 0 ? kind : other);
                    x.disturb(1, apart ? n : 0, n % 3 == 0 ? kind : other);
                }
                restart(x, anew);
                t.due("settle", due, x.settle());
                t.due("settled", true, x.settled());
                for (int inbox = 0; inbox < PORTS && due == 20; inbox++) {
                    for (int n = 0; n < 5; n++) {
                        t.due("byte", 10 * n + (inbox ^ 1), x.byteAt(inbox, 0, 0));
                        t.due("take", 1, x.take(inbox));
                    }
                }
            }
            for (int inbox = 0; inbox < PORTS; inbox++) {
                t.due("total", 8, x.total(inbox));
                Messages.holds(t, x, inbox, 2, 1, 70 + (inbox ^ 1));
            }
        }
    }

    /** Every mixture of lost, doubled, spoiled, delayed and whole, for the first three pieces of either end. */
    private static void settlingComesAboutWhateverBefallsTheFirstPieces() {
        t.about("Whatever was done to the link before, this always comes about: every mixture of few orders");
        for (int mixture = 0; mixture < 125 * 125 * 4; mixture++) {
            LinkStack x = new LinkStack();
            Messages.send(x, 0, 0, 1, 9);
            x.settle();
            x.take(1);
            disturbFirstPieces(x, 0, mixture % 125);
            disturbFirstPieces(x, 1, mixture / 125 % 125);
            restart(x, mixture / (125 * 125));
            Messages.send(x, 0, 0, 1, 10);
            Messages.send(x, 0, 0, 2, 20);
            Messages.send(x, 1, 0, 1, 30);
            t.due("settle", 3, x.settle());
            t.due("first length", 1, x.length(1, 0));
            t.due("first byte", 10, x.byteAt(1, 0, 0));
            t.due("second length", 2, x.length(1, 1));
            t.due("second byte", 20, x.byteAt(1, 1, 0));
            t.due("byte the other way", 30, x.byteAt(0, 0, 0));
            t.due("settle again", 0, x.settle());
        }
    }

    private static void disturbFirstPieces(LinkStack x, int e, int mixture) {
        int rest = mixture;
        for (int k = 0; k < 3; k++) {
            if (rest % 5 < 4) {
                x.disturb(e, k, rest % 5);
            }
            rest /= 5;
        }
    }

    private static void restart(LinkStack x, int who) {
        for (int e = 0; e < 2; e++) {
            if (((who >> e) & 1) == 1) {
                x.restart(e);
            }
        }
    }

    /** The same run on a calm link and beside it on one that is disturbed in every place. */
    private static void noAnswerDependsOnTheLink() {
        t.about("no answer depends on what was done to the link");
        String calm = answers(0, 0, 0, 0);
        for (int e = 0; e < 2; e++) {
            for (int k = 0; k < 16; k++) {
                for (int kind = 0; kind < 4; kind++) {
                    for (int who = 0; who < 4; who++) {
                        String order = "disturb(" + e + ", " + k + ", " + kind + "), anew " + who;
                        t.due(order, calm, answers(1 + e, k, kind, who));
                    }
                }
            }
        }
    }

    private static String answers(int disturbed, int k, int kind, int who) {
        LinkStack x = new LinkStack();
        StringBuilder said = new StringBuilder();
        for (int round = 0; round < 6; round++) {
            for (int port = 0; port < PORTS; port++) {
                said.append(Messages.sendFrom(x, port, round % 3, 20 * round + port)).append(' ');
                said.append(Messages.sendFrom(x, port, 1, 20 * round + port + 4)).append(' ');
            }
            if (disturbed > 0) {
                x.disturb(disturbed - 1, k, kind);
            }
            restart(x, who);
            said.append(x.settled()).append(x.settle()).append(x.settled()).append(' ');
            for (int inbox = 0; inbox < PORTS; inbox++) {
                said.append(x.arrived(inbox)).append(' ').append(x.byteAt(inbox, 0, 0)).append(' ');
                said.append(x.take(inbox)).append(' ').append(x.total(inbox)).append(' ');
            }
        }
        return said.toString();
    }

    private static void inboxNumbers() {
        t.about("An inbox is written as a number: end + 2 * channel");
        for (int e = 0; e < 2; e++) {
            for (int channel = 0; channel < 2; channel++) {
                LinkStack x = new LinkStack();
                x.write(1 - e, 99);
                x.post(1 - e, channel);
                x.settle();
                for (int inbox = 0; inbox < PORTS; inbox++) {
                    boolean here = inbox == e + 2 * channel;
                    t.due("arrived", here ? 1 : 0, x.arrived(inbox));
                    t.due("total", here ? 1 : 0, x.total(inbox));
                    t.due("length", here ? 1 : BAD, x.length(inbox, 0));
                    t.due("byteAt", here ? 99 : BAD, x.byteAt(inbox, 0, 0));
                    t.due("take", here ? 1 : BAD, x.take(inbox));
                }
            }
        }
        LinkStack x = new LinkStack();
        for (int wrong : Messages.outside(3)) {
            t.due("inbox " + wrong, BAD, x.arrived(wrong));
        }
    }
}
