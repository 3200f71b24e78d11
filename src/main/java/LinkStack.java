/**
 * Two ends that send each other messages over a link that loses, doubles, spoils and delays.
 *
 * An end has a PORT for each channel, numbered like the document's inboxes: end + 2 * channel.
 * A port owns one waiting list and one inbox; the port it talks to is (port ^ 1).
 *
 * The protocol is stop and wait, with numbered messages:
 *   ASK            "which number do you expect?"  sent by a port that does not know (any more)
 *   DATA n         the first waiting message, which is number n of this direction
 *   ANSWER n       "n is the number I expect", with room for it or with a full inbox
 * The number a port expects is the total of its inbox. That belongs to the inbox and not to the
 * link, so it outlives a restart: a message that came twice is known as such even then.
 */
public final class LinkStack {
    public static final int BAD = -1;
    public static final int FULL = -2;

    private static final int ENDS = 2;
    private static final int PORTS = 4;
    private static final int BYTE_MAX = 255;
    private static final int MESSAGE_LIMIT = 24;
    private static final int WAITING_LIMIT = 8;
    private static final int INBOX_LIMIT = 5;
    private static final int DRAFT_BYTES = ENDS * MESSAGE_LIMIT;
    private static final int WAITING_SLOTS = PORTS * WAITING_LIMIT;
    private static final int WAITING_BYTES = WAITING_SLOTS * MESSAGE_LIMIT;
    private static final int INBOX_SLOTS = PORTS * INBOX_LIMIT;
    private static final int INBOX_BYTES = INBOX_SLOTS * MESSAGE_LIMIT;

    private static final int LOST = 0;
    private static final int DOUBLED = 1;
    private static final int SPOILED = 2;
    private static final int DELAYED = 3;
    private static final int PIECE_AHEAD_MAX = 15;
    private static final int ORDER_LIMIT = 12;
    private static final int ORDERS = ENDS * ORDER_LIMIT;

    private static final int ASK = 1;
    private static final int DATA = 2;
    private static final int ANSWER_ROOM = 3;
    private static final int ANSWER_FULL = 4;

    // A piece: kind, channel, number (2 bytes), the message's bytes, checksum (2 bytes).
    private static final int HEAD_BYTES = 4;
    private static final int CHECK_BYTES = 2;
    private static final int PIECE_MIN = HEAD_BYTES + CHECK_BYTES;
    private static final int PIECE_MAX = PIECE_MIN + MESSAGE_LIMIT;
    private static final int NUMBER_MASK = 0xFFFF;

    // At most 8 undisturbed pieces are under way at once (an answer and a request of each port),
    // and each of the 24 orders adds at most one that lingers: the link never runs out of room.
    private static final int UNDER_WAY = 40;
    private static final int UNDER_WAY_BYTES = UNDER_WAY * PIECE_MAX;

    // A round trip takes 2 ticks, so a resend means that something went wrong. A delayed piece
    // stays longer than that, so that it is overtaken.
    private static final int TRANSIT_TICKS = 1;
    private static final int RESEND_TICKS = 4;
    private static final int DELAY_TICKS = 11;
    private static final int DOUBLE_LAG_TICKS = 3;

    // At most 20 messages arrive and 24 pieces are disturbed in one settling: some hundred ticks.
    private static final int TICK_LIMIT = 1000000;

    private final int[] draftLength = new int[ENDS];
    private final int[] draftBytes = new int[DRAFT_BYTES];

    private final int[] waitingFirst = new int[PORTS];
    private final int[] waitingCount = new int[PORTS];
    private final int[] waitingLength = new int[WAITING_SLOTS];
    private final int[] waitingBytes = new int[WAITING_BYTES];

    private final int[] inboxFirst = new int[PORTS];
    private final int[] inboxCount = new int[PORTS];
    private final int[] inboxTotal = new int[PORTS];
    private final int[] inboxLength = new int[INBOX_SLOTS];
    private final int[] inboxBytes = new int[INBOX_BYTES];

    // What a port knows about the link, and forgets when its end starts anew.
    private final boolean[] knowsNumber = new boolean[PORTS];
    private final int[] nextNumber = new int[PORTS];
    private final boolean[] toldFull = new boolean[PORTS];
    private final boolean[] owesAnswer = new boolean[PORTS];
    private final int[] resendIn = new int[PORTS];

    // The link: the orders to disturb it, and the pieces under way (length 0 marks a free place).
    private final int[] orderCount = new int[ENDS];
    private final int[] orderAhead = new int[ORDERS];
    private final int[] orderKind = new int[ORDERS];
    private final int[] piecesSent = new int[ENDS];
    private final int[] pieceLength = new int[UNDER_WAY];
    private final int[] pieceTo = new int[UNDER_WAY];
    private final int[] pieceTicks = new int[UNDER_WAY];
    private final int[] pieceBytes = new int[UNDER_WAY_BYTES];

    // The piece that is being made.
    private final int[] newPiece = new int[PIECE_MAX];
    private int newLength = 0;

    public LinkStack() {
    }

    public int write(int e, int b) {
        if (!isZeroOrOne(e) || b < 0 || b > BYTE_MAX) {
            return BAD;
        }
        if (draftLength[e] >= MESSAGE_LIMIT) {
            return FULL;
        }
        draftBytes[e * MESSAGE_LIMIT + draftLength[e]] = b;
        draftLength[e]++;
        return draftLength[e];
    }

    public int wipe(int e) {
        if (!isZeroOrOne(e)) {
            return BAD;
        }
        int had = draftLength[e];
        draftLength[e] = 0;
        return had;
    }

    public int post(int e, int channel) {
        if (!isZeroOrOne(e) || !isZeroOrOne(channel)) {
            return BAD;
        }
        int port = e + 2 * channel;
        if (waitingCount[port] >= WAITING_LIMIT) {
            return FULL;
        }
        int slot = waitingSlot(port, waitingCount[port]);
        for (int i = 0; i < draftLength[e]; i++) {
            waitingBytes[slot * MESSAGE_LIMIT + i] = draftBytes[e * MESSAGE_LIMIT + i];
        }
        waitingLength[slot] = draftLength[e];
        waitingCount[port]++;
        draftLength[e] = 0;
        return waitingCount[port];
    }

    public boolean disturb(int e, int k, int kind) {
        if (!isZeroOrOne(e) || k < 0 || k > PIECE_AHEAD_MAX || kind < LOST || kind > DELAYED) {
            return false;
        }
        if (orderCount[e] < ORDER_LIMIT) {
            int order = e * ORDER_LIMIT + orderCount[e];
            orderAhead[order] = k;
            orderKind[order] = kind;
            orderCount[e]++;
        }
        return true;
    }

    public boolean restart(int e) {
        if (!isZeroOrOne(e)) {
            return false;
        }
        for (int port = e; port < PORTS; port += ENDS) {
            knowsNumber[port] = false;
            nextNumber[port] = 0;
            toldFull[port] = false;
            owesAnswer[port] = false;
            resendIn[port] = 0;
        }
        return true;
    }

    /**
     * Ends only when nothing is under way any more: so no answer that was sent before a restart
     * can reach an end after it, and every message that arrived has left its waiting list.
     */
    public int settle() {
        int before = arrivedInAll();
        tryFullInboxesAgain();
        boolean quiet = false;
        for (int tick = 0; tick < TICK_LIMIT && !quiet; tick++) {
            deliverDuePieces();
            sendDuePieces();
            quiet = isQuiet();
        }
        int after = arrivedInAll();
        return after - before;
    }

    public int waiting(int e, int channel) {
        if (!isZeroOrOne(e) || !isZeroOrOne(channel)) {
            return BAD;
        }
        return waitingCount[e + 2 * channel];
    }

    public int arrived(int inbox) {
        if (!isPort(inbox)) {
            return BAD;
        }
        return inboxCount[inbox];
    }

    public int length(int inbox, int i) {
        if (!holdsMessage(inbox, i)) {
            return BAD;
        }
        int slot = inboxSlot(inbox, i);
        return inboxLength[slot];
    }

    public int byteAt(int inbox, int i, int k) {
        if (!holdsMessage(inbox, i)) {
            return BAD;
        }
        int slot = inboxSlot(inbox, i);
        if (k < 0 || k >= inboxLength[slot]) {
            return BAD;
        }
        return inboxBytes[slot * MESSAGE_LIMIT + k];
    }

    public int take(int inbox) {
        if (!holdsMessage(inbox, 0)) {
            return BAD;
        }
        int taken = inboxLength[inboxSlot(inbox, 0)];
        inboxFirst[inbox] = (inboxFirst[inbox] + 1) % INBOX_LIMIT;
        inboxCount[inbox]--;
        return taken;
    }

    public int draft(int e) {
        if (!isZeroOrOne(e)) {
            return BAD;
        }
        return draftLength[e];
    }

    public boolean settled() {
        for (int port = 0; port < PORTS; port++) {
            if (waitingCount[port] > 0 && inboxCount[port ^ 1] < INBOX_LIMIT) {
                return false;
            }
        }
        return true;
    }

    public int total(int inbox) {
        if (!isPort(inbox)) {
            return BAD;
        }
        return inboxTotal[inbox];
    }

    private static boolean isZeroOrOne(int n) {
        return n == 0 || n == 1;
    }

    private static boolean isPort(int n) {
        return n >= 0 && n < PORTS;
    }

    private boolean holdsMessage(int inbox, int i) {
        return isPort(inbox) && i >= 0 && i < inboxCount[inbox];
    }

    private int waitingSlot(int port, int i) {
        return port * WAITING_LIMIT + (waitingFirst[port] + i) % WAITING_LIMIT;
    }

    private int inboxSlot(int port, int i) {
        return port * INBOX_LIMIT + (inboxFirst[port] + i) % INBOX_LIMIT;
    }

    private int arrivedInAll() {
        int sum = 0;
        for (int port = 0; port < PORTS; port++) {
            sum += inboxTotal[port];
        }
        return sum;
    }

    // Room is made by take, between two settlings; nobody tells the sender of it.
    private void tryFullInboxesAgain() {
        for (int port = 0; port < PORTS; port++) {
            toldFull[port] = false;
            resendIn[port] = 0;
        }
    }

    private boolean hasMessageToSend(int port) {
        return waitingCount[port] > 0 && !toldFull[port];
    }

    private boolean isQuiet() {
        for (int port = 0; port < PORTS; port++) {
            if (hasMessageToSend(port)) {
                return false;
            }
        }
        for (int place = 0; place < UNDER_WAY; place++) {
            if (pieceLength[place] > 0) {
                return false;
            }
        }
        return true;
    }

    private void deliverDuePieces() {
        for (int place = 0; place < UNDER_WAY; place++) {
            if (pieceLength[place] > 0) {
                pieceTicks[place]--;
                if (pieceTicks[place] <= 0) {
                    if (isUnspoiled(place)) {
                        readPiece(place);
                    }
                    pieceLength[place] = 0;
                }
            }
        }
    }

    private boolean isUnspoiled(int place) {
        int checked = pieceLength[place] - CHECK_BYTES;
        if (checked < HEAD_BYTES) {
            return false;
        }
        int from = place * PIECE_MAX;
        int sum = pieceBytes[from + checked] * 256 + pieceBytes[from + checked + 1];
        return sum == checksum(pieceBytes, from, checked);
    }

    private void readPiece(int place) {
        int from = place * PIECE_MAX;
        int kind = pieceBytes[from];
        int port = pieceTo[place] + 2 * pieceBytes[from + 1];
        int number = pieceBytes[from + 2] * 256 + pieceBytes[from + 3];
        if (!isPort(port)) {
            return;
        }
        switch (kind) {
            case ASK:
                owesAnswer[port] = true;
                break;
            case DATA:
                readMessage(port, number, place);
                owesAnswer[port] = true;
                break;
            case ANSWER_ROOM:
                readAnswer(port, number, false);
                break;
            case ANSWER_FULL:
                readAnswer(port, number, true);
                break;
            default:
                break;
        }
    }

    private void readMessage(int port, int number, int place) {
        boolean expected = number == (inboxTotal[port] & NUMBER_MASK);
        if (!expected || inboxCount[port] >= INBOX_LIMIT) {
            return;
        }
        int slot = inboxSlot(port, inboxCount[port]);
        int from = place * PIECE_MAX + HEAD_BYTES;
        int size = pieceLength[place] - PIECE_MIN;
        for (int i = 0; i < size; i++) {
            inboxBytes[slot * MESSAGE_LIMIT + i] = pieceBytes[from + i];
        }
        inboxLength[slot] = size;
        inboxCount[port]++;
        inboxTotal[port]++;
    }

    // An answer with any other number is an old one that came late or twice.
    private void readAnswer(int port, int number, boolean full) {
        if (!knowsNumber[port]) {
            knowsNumber[port] = true;
            nextNumber[port] = number;
            resendIn[port] = 0;
        } else if (number == ((nextNumber[port] + 1) & NUMBER_MASK)) {
            nextNumber[port] = number;
            resendIn[port] = 0;
            dropFirstWaiting(port);
        }
        if (full && number == nextNumber[port]) {
            toldFull[port] = true;
        }
    }

    private void dropFirstWaiting(int port) {
        if (waitingCount[port] > 0) {
            waitingFirst[port] = (waitingFirst[port] + 1) % WAITING_LIMIT;
            waitingCount[port]--;
        }
    }

    private void sendDuePieces() {
        for (int port = 0; port < PORTS; port++) {
            if (owesAnswer[port]) {
                owesAnswer[port] = false;
                makeAnswer(port);
                transmit(port % ENDS);
            }
            if (resendIn[port] > 0) {
                resendIn[port]--;
            }
            if (resendIn[port] == 0 && hasMessageToSend(port)) {
                resendIn[port] = RESEND_TICKS;
                makeRequest(port);
                transmit(port % ENDS);
            }
        }
    }

    private void makeAnswer(int port) {
        int kind = inboxCount[port] < INBOX_LIMIT ? ANSWER_ROOM : ANSWER_FULL;
        makeHead(port, kind, inboxTotal[port]);
    }

    private void makeRequest(int port) {
        if (!knowsNumber[port]) {
            makeHead(port, ASK, 0);
            return;
        }
        makeHead(port, DATA, nextNumber[port]);
        int slot = waitingSlot(port, 0);
        for (int i = 0; i < waitingLength[slot]; i++) {
            newPiece[HEAD_BYTES + i] = waitingBytes[slot * MESSAGE_LIMIT + i];
        }
        newLength = HEAD_BYTES + waitingLength[slot];
    }

    private void makeHead(int port, int kind, int number) {
        newPiece[0] = kind;
        newPiece[1] = port / ENDS;
        newPiece[2] = (number >> 8) & BYTE_MAX;
        newPiece[3] = number & BYTE_MAX;
        newLength = HEAD_BYTES;
    }

    private void transmit(int end) {
        sealNewPiece();
        int effects = takeOrdersDue(end);
        piecesSent[end]++;
        if (hasEffect(effects, LOST)) {
            return;
        }
        if (hasEffect(effects, SPOILED)) {
            spoilNewPiece(piecesSent[end] & NUMBER_MASK);
        }
        int ticks = hasEffect(effects, DELAYED) ? DELAY_TICKS : TRANSIT_TICKS;
        putUnderWay(1 - end, ticks);
        if (hasEffect(effects, DOUBLED)) {
            putUnderWay(1 - end, ticks + DOUBLE_LAG_TICKS);
        }
    }

    private void sealNewPiece() {
        int sum = checksum(newPiece, 0, newLength);
        newPiece[newLength] = sum >> 8;
        newPiece[newLength + 1] = sum & BYTE_MAX;
        newLength += CHECK_BYTES;
    }

    /** Answers what happens to the end's next piece, a bit for each kind; orders left move up. */
    private int takeOrdersDue(int end) {
        int effects = 0;
        int kept = 0;
        int base = end * ORDER_LIMIT;
        for (int i = 0; i < orderCount[end]; i++) {
            if (orderAhead[base + i] == 0) {
                effects |= 1 << orderKind[base + i];
            } else {
                orderAhead[base + kept] = orderAhead[base + i] - 1;
                orderKind[base + kept] = orderKind[base + i];
                kept++;
            }
        }
        orderCount[end] = kept;
        return effects;
    }

    private static boolean hasEffect(int effects, int kind) {
        return ((effects >> kind) & 1) == 1;
    }

    // The choice of the bits only has to vary from piece to piece.
    private void spoilNewPiece(int choice) {
        int bits = newLength * 8;
        if (bits < 1) {
            return;
        }
        int one = (choice * 37 + 11) % bits;
        int other = (choice * 101 + 5) % bits;
        flipBit(one);
        if (choice % 2 == 1 && other != one) {
            flipBit(other);
        }
    }

    private void flipBit(int bit) {
        newPiece[bit / 8] ^= 1 << (bit % 8);
    }

    private void putUnderWay(int end, int ticks) {
        for (int place = 0; place < UNDER_WAY; place++) {
            if (pieceLength[place] == 0) {
                for (int i = 0; i < newLength; i++) {
                    pieceBytes[place * PIECE_MAX + i] = newPiece[i];
                }
                pieceLength[place] = newLength;
                pieceTo[place] = end;
                pieceTicks[place] = ticks;
                return;
            }
        }
    }

    // CRC-16 with the polynomial 0x1021: at this length it finds every one or two spoiled bits.
    private static int checksum(int[] bytes, int from, int count) {
        int sum = 0xFFFF;
        for (int i = 0; i < count; i++) {
            sum ^= bytes[from + i] << 8;
            for (int bit = 0; bit < 8; bit++) {
                sum <<= 1;
                if (sum > 0xFFFF) {
                    sum ^= 0x11021;
                }
            }
        }
        return sum;
    }
}
