/** Steps that many tests share. A message is told by its length and its first byte; the others count up from it. */
final class Messages {
    private Messages() {
    }

    static int send(LinkStack x, int e, int channel, int length, int first) {
        for (int i = 0; i < length; i++) {
            x.write(e, (first + i) & 255);
        }
        return x.post(e, channel);
    }

    /** A port is numbered like an inbox: end + 2 * channel; what it posts arrives in inbox (port ^ 1). */
    static int sendFrom(LinkStack x, int port, int length, int first) {
        return send(x, port % 2, port / 2, length, first);
    }

    static int waitingAt(LinkStack x, int port) {
        return x.waiting(port % 2, port / 2);
    }

    static void holds(Due t, LinkStack x, int inbox, int i, int length, int first) {
        String where = "inbox " + inbox + ", message " + i;
        t.due(where + ": length", length, x.length(inbox, i));
        for (int k = 0; k < length; k++) {
            t.due(where + ": byte " + k, (first + k) & 255, x.byteAt(inbox, i, k));
        }
        t.due(where + ": byte " + length, LinkStack.BAD, x.byteAt(inbox, i, length));
    }

    /** Numbers that are not 0 .. max, those among them that a careless sum or mask would take for one. */
    static int[] outside(int max) {
        int[] near = {-1, -2, -max - 1, max + 1, max + 2, 2 * max + 2};
        int[] far = {-256, 256, -65536, 65536, 1 << 30, (1 << 30) + 1, 3 << 30, Integer.MIN_VALUE, Integer.MIN_VALUE + 1,
            Integer.MAX_VALUE, Integer.MAX_VALUE - 1};
        return java.util.stream.IntStream.concat(java.util.Arrays.stream(near), java.util.Arrays.stream(far))
                .filter(n -> n < 0 || n > max).toArray();
    }
}
