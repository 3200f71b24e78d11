import java.lang.reflect.Array;
import java.lang.reflect.Field;
import java.lang.reflect.Method;
import java.math.BigInteger;
import java.util.Arrays;
import java.util.Random;
import java.util.Set;

/**
 * No answer shows what is done to the link, so promises 5 and 6 are looked at from inside here:
 * an undisturbed first message takes two pieces of each end (ask, data; answer, answer).
 */
public final class LinkInsideTest {
    private static final int LOST = 0;
    private static final int DOUBLED = 1;
    private static final int SPOILED = 2;
    private static final int DELAYED = 3;
    private static final Due t = new Due();

    public static void main(String[] args) throws ReflectiveOperationException {
        undisturbed();
        oneOrder();
        everySpoiledPieceIsRefused();
        spoiledInABitOrTwo();
        orderWaitsForItsPiece();
        ordersCountFromNowOn();
        ordersComeDueAsGiven();
        twelveOrdersAreRemembered();
        twelveNewOrdersWhenTheOldAreDone();
        restartForgetsTheLink();
        restartForgetsTheLinkOnEitherChannel();
        restartForgetsAllOfTheLinkAndNothingElse();
        restartLeavesTheOrders();
        everyOneOrTwoBitsAreFound();
        checksumIsTheOneItIsSaidToBe();
        t.end();
    }

    private static void sendOne(LinkStack x) {
        x.write(0, 33);
        x.post(0, 0);
        t.due("settle", 1, x.settle());
        t.due("byte", 33, x.byteAt(1, 0, 0));
        x.take(1);
    }

    private static void undisturbed() throws ReflectiveOperationException {
        LinkStack x = new LinkStack();
        sendOne(x);
        t.due("pieces of end 0", 2, Inside.sent(x, 0));
        t.due("pieces of end 1", 2, Inside.sent(x, 1));
        sendOne(x);
        t.due("pieces of end 0, number known", 3, Inside.sent(x, 0));
        t.due("pieces of end 1, number known", 3, Inside.sent(x, 1));
        x.settle();
        t.due("nothing to send", 3, Inside.sent(x, 0));
    }

    private static void oneOrder() throws ReflectiveOperationException {
        for (int e = 0; e < 2; e++) {
            for (int k = 0; k < 2; k++) {
                for (int kind = 0; kind < 4; kind++) {
                    LinkStack x = new LinkStack();
                    x.disturb(e, k, kind);
                    sendOne(x);
                    String order = "order " + e + " " + k + " " + kind;
                    t.due(order + " is done", 0, Inside.orders(x, e));
                    if (kind == LOST || kind == SPOILED) {
                        t.due(order + ": sent again", 3, Inside.sent(x, 0));
                    }
                    if (kind == DELAYED) {
                        t.due(order + ": sent again", true, Inside.sent(x, 0) >= 3);
                    }
                    if (kind == DOUBLED && e == 0) {
                        t.due(order + ": answered twice", 3, Inside.sent(x, 1));
                    }
                    if (kind == DOUBLED) {
                        t.due(order + ": sent once", 2, Inside.sent(x, 0));
                    }
                }
            }
        }
    }

    /** Whichever bits the link picks for a piece, of every length, one at least is changed. */
    private static void everySpoiledPieceIsRefused() throws ReflectiveOperationException {
        LinkStack x = new LinkStack();
        sendOne(x);
        for (int n = 0; n < 5000; n++) {
            for (int i = 0; i < n % 25; i++) {
                x.write(0, i);
            }
            x.post(0, 0);
            int before = Inside.sent(x, 0);
            // A second spoiling shifts which pieces are hit, so that odd and even ones are.
            x.disturb(0, 0, SPOILED);
            if (n % 3 == 0) {
                x.disturb(0, 1, SPOILED);
            }
            x.settle();
            t.due("spoiled piece " + before + " is sent again", before + (n % 3 == 0 ? 3 : 2), Inside.sent(x, 0));
            t.due("length", n % 25, x.take(1));
        }
    }

    /** The choice of the bits repeats after twice as many pieces as the longest has bits. */
    private static void spoiledInABitOrTwo() throws ReflectiveOperationException {
        Method spoil = Inside.method("spoilNewPiece", int.class);
        Field length = Inside.field("newLength");
        LinkStack x = new LinkStack();
        int[] piece = Inside.ints(x, "newPiece");
        boolean one = false;
        boolean two = false;
        for (int size = 6; size <= 30; size++) {
            length.setInt(x, size);
            for (int choice = 0; choice <= 480; choice++) {
                spoil.invoke(x, choice);
                int bits = 0;
                for (int i = 0; i < piece.length; i++) {
                    bits += i < size ? Integer.bitCount(piece[i] & 255) : 0;
                    piece[i] = 0;
                }
                t.due("one or two bits", true, bits == 1 || bits == 2);
                one |= bits == 1;
                two |= bits == 2;
            }
        }
        t.due("one bit at times", true, one);
        t.due("two bits at times", true, two);
    }

    private static void orderWaitsForItsPiece() throws ReflectiveOperationException {
        LinkStack x = new LinkStack();
        x.disturb(0, 15, LOST);
        for (int n = 1; n <= 14; n++) {
            sendOne(x);
        }
        t.due("fifteen pieces", 15, Inside.sent(x, 0));
        t.due("the order waits", 1, Inside.orders(x, 0));
        sendOne(x);
        t.due("the sixteenth is lost", 17, Inside.sent(x, 0));
        t.due("the order is done", 0, Inside.orders(x, 0));
    }

    /** Orders given when some pieces have been sent count from there. */
    private static void ordersCountFromNowOn() throws ReflectiveOperationException {
        for (int before = 1; before < 20; before++) {
            LinkStack x = new LinkStack();
            for (int n = 0; n < before; n++) {
                sendOne(x);
            }
            int pieces = Inside.sent(x, 0);
            x.disturb(0, 0, LOST);
            x.disturb(0, 2, LOST);
            sendOne(x);
            t.due("the next piece is lost", pieces + 2, Inside.sent(x, 0));
            t.due("the other order waits", 1, Inside.orders(x, 0));
            sendOne(x);
            t.due("the third piece is lost", pieces + 4, Inside.sent(x, 0));
            t.due("both are done", 0, Inside.orders(x, 0));
        }
    }

    /** Drawn orders, given between pieces, beside a plain table of what is to befall which piece. */
    private static void ordersComeDueAsGiven() throws ReflectiveOperationException {
        Method takeDue = Inside.method("takeOrdersDue", int.class);
        for (int seed = 0; seed < 500; seed++) {
            Random r = new Random(seed);
            LinkStack x = new LinkStack();
            int[][] effects = new int[2][200];
            int[][] count = new int[2][200];
            int[] kept = new int[2];
            for (int piece = 0; piece < 100; piece++) {
                for (int n = r.nextInt(5); n > 0; n--) {
                    int e = r.nextInt(2);
                    int k = r.nextInt(16);
                    int kind = r.nextInt(4);
                    x.disturb(e, k, kind);
                    if (kept[e] < 12) {
                        effects[e][piece + k] |= 1 << kind;
                        count[e][piece + k]++;
                        kept[e]++;
                    }
                }
                for (int e = 0; e < 2; e++) {
                    t.due("piece " + piece, effects[e][piece], (int) takeDue.invoke(x, e));
                    kept[e] -= count[e][piece];
                    t.due("orders left", kept[e], Inside.orders(x, e));
                }
            }
        }
    }

    private static void twelveOrdersAreRemembered() throws ReflectiveOperationException {
        LinkStack x = new LinkStack();
        for (int n = 0; n < 14; n++) {
            t.due("disturb", true, x.disturb(0, n, LOST));
        }
        t.due("orders of end 0", 12, Inside.orders(x, 0));
        t.due("orders of end 1", 0, Inside.orders(x, 1));
        t.due("disturb 1", true, x.disturb(1, 0, LOST));
        t.due("orders of end 1", 1, Inside.orders(x, 1));
        sendOne(x);
        // Twelve asks are lost, then ask and its lost answer, then ask and data.
        t.due("pieces of end 0", 15, Inside.sent(x, 0));
        t.due("orders are done", 0, Inside.orders(x, 0));
    }

    private static void twelveNewOrdersWhenTheOldAreDone() throws ReflectiveOperationException {
        LinkStack x = new LinkStack();
        for (int round = 0; round < 3; round++) {
            for (int n = 0; n < 12; n++) {
                x.disturb(0, n, LOST);
                t.due("remembered", n + 1, Inside.orders(x, 0));
            }
            int before = Inside.sent(x, 0);
            sendOne(x);
            t.due("twelve are lost", before + 12 + (round == 0 ? 2 : 1), Inside.sent(x, 0));
            t.due("done", 0, Inside.orders(x, 0));
        }
    }

    private static void restartForgetsTheLink() throws ReflectiveOperationException {
        LinkStack x = new LinkStack();
        sendOne(x);
        x.restart(1);
        sendOne(x);
        t.due("the receiver's restart costs nothing", 3, Inside.sent(x, 0));
        x.restart(0);
        sendOne(x);
        t.due("the sender has to ask again", 5, Inside.sent(x, 0));
    }

    private static void restartForgetsTheLinkOnEitherChannel() throws ReflectiveOperationException {
        for (int port = 0; port < 4; port++) {
            int e = port % 2;
            LinkStack x = new LinkStack();
            Messages.sendFrom(x, port, 1, 0);
            x.settle();
            for (int round = 0; round < 3; round++) {
                int before = Inside.sent(x, e);
                if (round == 1) {
                    x.restart(e);
                }
                if (round == 2) {
                    x.restart(1 - e);
                }
                Messages.sendFrom(x, port, 1, 1);
                x.settle();
                t.due("port " + port + ", round " + round, before + (round == 1 ? 2 : 1), Inside.sent(x, e));
            }
        }
    }

    /** Beside a twin that is not started anew: what its end knows about the link is as in a new object. */
    private static void restartForgetsAllOfTheLinkAndNothingElse() throws ReflectiveOperationException {
        Set<String> aboutTheLink = Set.of("knowsNumber", "nextNumber", "toldFull", "owesAnswer", "resendIn");
        int forgotten = 0;
        for (int e = 0; e < 2; e++) {
            LinkStack x = inTheMiddleOfAll();
            LinkStack twin = inTheMiddleOfAll();
            x.restart(e);
            for (Field field : LinkStack.class.getDeclaredFields()) {
                field.setAccessible(true);
                int size = field.getType().isArray() ? Array.getLength(field.get(x)) : 0;
                for (int i = 0; i < size; i++) {
                    boolean forgets = aboutTheLink.contains(field.getName()) && i % 2 == e;
                    Object due = Array.get(field.get(forgets ? new LinkStack() : twin), i);
                    String where = "restart(" + e + "): " + field.getName() + " " + i;
                    t.due(where, due.toString(), Array.get(field.get(x), i).toString());
                    forgotten += due.equals(Array.get(field.get(twin), i)) ? 0 : 1;
                }
            }
        }
        t.due("there was something to forget", true, forgotten > 0);
    }

    private static LinkStack inTheMiddleOfAll() throws ReflectiveOperationException {
        LinkStack x = new LinkStack();
        for (int port = 0; port < 4; port++) {
            for (int n = 0; n < 7; n++) {
                Messages.sendFrom(x, port, n, 20 * port + n);
            }
        }
        x.settle();
        x.take(2);
        for (int e = 0; e < 2; e++) {
            x.write(e, 99);
            x.disturb(e, 3, DELAYED);
        }
        // Nothing is owed and no resend is near between two calls; a restart is to forget even these.
        Arrays.fill((boolean[]) Inside.field("owesAnswer").get(x), true);
        Arrays.fill(Inside.ints(x, "resendIn"), 2);
        return x;
    }

    private static void restartLeavesTheOrders() throws ReflectiveOperationException {
        LinkStack x = new LinkStack();
        x.disturb(0, 0, LOST);
        x.restart(0);
        t.due("it is the link that remembers", 1, Inside.orders(x, 0));
    }

    /** Drawn contents, as nothing here may presume how the checksum is reckoned. */
    private static void everyOneOrTwoBitsAreFound() throws ReflectiveOperationException {
        Method checksum = Inside.method("checksum", int[].class, int.class, int.class);
        Random r = new Random(1);
        for (int length : new int[] {6, 7, 18, 30}) {
            for (int content = 0; content < 12; content++) {
                int[] piece = new int[length];
                for (int i = 0; i < length - 2; i++) {
                    piece[i] = content == 0 ? 0 : content == 1 ? 255 : r.nextInt(256);
                }
                int sum = (int) checksum.invoke(null, piece, 0, length - 2);
                t.due("the sum has two bytes", true, sum >= 0 && sum <= 0xFFFF);
                piece[length - 2] = sum >> 8;
                piece[length - 1] = sum & 255;
                everyOneOrTwoBitsAreFound(checksum, piece);
            }
        }
    }

    private static void everyOneOrTwoBitsAreFound(Method checksum, int[] piece) throws ReflectiveOperationException {
        for (int one = 0; one < piece.length * 8; one++) {
            flip(piece, one);
            t.due("bit " + one + " is found", false, isSound(checksum, piece));
            for (int other = 0; other < one; other++) {
                flip(piece, other);
                t.due("bits " + one + " and " + other + " are found", false, isSound(checksum, piece));
                flip(piece, other);
            }
            flip(piece, one);
        }
        t.due("unspoiled", true, isSound(checksum, piece));
    }

    private static void flip(int[] piece, int bit) {
        piece[bit / 8] ^= 1 << (bit % 8);
    }

    private static boolean isSound(Method checksum, int[] piece) throws ReflectiveOperationException {
        int checked = piece.length - 2;
        int sum = (int) checksum.invoke(null, piece, 0, checked);
        return sum == piece[checked] * 256 + piece[checked + 1];
    }

    /** 0x29B1 is what tables of checksums give for this one; below it is reckoned in another way. */
    private static void checksumIsTheOneItIsSaidToBe() throws ReflectiveOperationException {
        Method checksum = Inside.method("checksum", int[].class, int.class, int.class);
        int[] digits = "123456789".chars().toArray();
        t.due("checksum of the nine digits", 0x29B1, (int) checksum.invoke(null, digits, 0, 9));
        Random r = new Random(2);
        for (int n = 0; n < 20000; n++) {
            int[] bytes = r.ints(28, 0, 256).toArray();
            int from = r.nextInt(28);
            int count = r.nextInt(29 - from);
            int got = (int) checksum.invoke(null, bytes, from, count);
            t.due("checksum of " + count + " bytes", remainder(bytes, from, count), got);
        }
    }

    private static int remainder(int[] bytes, int from, int count) {
        BigInteger value = BigInteger.valueOf(0xFFFF).shiftLeft(8 * count);
        for (int i = 0; i < count; i++) {
            value = value.xor(BigInteger.valueOf(bytes[from + i]).shiftLeft(8 * (count - i) + 8));
        }
        for (int bit = 8 * count + 15; bit >= 16; bit--) {
            if (value.testBit(bit)) {
                value = value.xor(BigInteger.valueOf(0x11021).shiftLeft(bit - 16));
            }
        }
        return value.intValue();
    }
}
