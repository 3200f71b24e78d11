import java.util.ArrayDeque;
import java.util.ArrayList;
import java.util.Arrays;
import java.util.List;
import java.util.Random;

/** Long runs of drawn calls, beside a model that has no link at all: no answer may differ. */
public final class RandomRunsTest {
    private static final int RUNS = 4000;
    private static final int CALLS = 512;

    public static void main(String[] args) {
        Due t = new Due();
        for (int seed = 0; seed < RUNS && t.wrong() < 20; seed++) {
            run(t, seed);
        }
        t.end();
    }

    private static void run(Due t, int seed) {
        Random r = new Random(seed);
        Model m = new Model();
        LinkStack x = new LinkStack();
        // Runs differ in how wild the link is and in how often there is settling and taking.
        int[] weights = new int[14];
        for (int i = 0; i < weights.length; i++) {
            weights[i] = 1 + r.nextInt(i == 2 || i == 3 || i == 6 ? 20 : 6);
        }
        int wrongInputs = r.nextInt(8) == 0 ? 4 : 40;
        for (int n = 0; n < CALLS; n++) {
            int call = draw(r, weights);
            int a = r.nextInt(wrongInputs) == 0 ? odd(r) : r.nextInt(call >= 8 && call != 12 ? 4 : 2);
            int b = r.nextInt(wrongInputs) == 0 ? odd(r) : second(r, call);
            int c = r.nextInt(wrongInputs) == 0 ? odd(r) : call == 3 ? r.nextInt(4) : r.nextInt(24);
            String text = "seed " + seed + ", call " + n + ": " + call + "(" + a + ", " + b + ", " + c + ")";
            t.due(text, m.call(call, a, b, c), call(x, call, a, b, c));
        }
    }

    private static int draw(Random r, int[] weights) {
        int left = r.nextInt(Arrays.stream(weights).sum());
        int i = 0;
        while (left >= weights[i]) {
            left -= weights[i];
            i++;
        }
        return i;
    }

    private static int second(Random r, int call) {
        switch (call) {
            case 0: return r.nextInt(256);
            case 3: return r.nextInt(16);
            case 9: case 10: return r.nextInt(5);
            default: return r.nextInt(2);
        }
    }

    private static int odd(Random r) {
        int[] edges = {-1, 2, 3, 4, 5, 15, 16, 24, 255, 256, Integer.MIN_VALUE, Integer.MAX_VALUE};
        return edges[r.nextInt(edges.length)];
    }

    private static int call(LinkStack x, int call, int a, int b, int c) {
        switch (call) {
            case 0: return x.write(a, b);
            case 1: return x.wipe(a);
            case 2: return x.post(a, b);
            case 3: return x.disturb(a, b, c) ? 1 : 0;
            case 4: return x.restart(a) ? 1 : 0;
            case 5: return x.settle();
            case 6: return x.write(a & 1, b & 255);
            case 7: return x.waiting(a, b);
            case 8: return x.arrived(a);
            case 9: return x.length(a, b);
            case 10: return x.byteAt(a, b, c);
            case 11: return x.take(a);
            case 12: return x.draft(a);
            default: return b == 0 ? x.total(a) : x.settled() ? 1 : 0;
        }
    }

    /** The document's terms, said with the library's lists. */
    private static final class Model {
        private final List<List<Integer>> drafts = new ArrayList<>();
        private final List<ArrayDeque<List<Integer>>> waiting = new ArrayList<>();
        private final List<ArrayList<List<Integer>>> inboxes = new ArrayList<>();
        private final int[] totals = new int[4];

        Model() {
            for (int i = 0; i < 4; i++) {
                drafts.add(new ArrayList<>());
                waiting.add(new ArrayDeque<>());
                inboxes.add(new ArrayList<>());
            }
        }

        int call(int call, int a, int b, int c) {
            switch (call) {
                case 0: return write(a, b);
                case 1: return wipe(a);
                case 2: return post(a, b);
                case 3: return bit(a) && b >= 0 && b <= 15 && c >= 0 && c <= 3 ? 1 : 0;
                case 4: return bit(a) ? 1 : 0;
                case 5: return settle();
                case 6: return write(a & 1, b & 255);
                case 7: return bit(a) && bit(b) ? waiting.get(a + 2 * b).size() : -1;
                case 8: return inbox(a) ? inboxes.get(a).size() : -1;
                case 9: return has(a, b) ? inboxes.get(a).get(b).size() : -1;
                case 10: return has(a, b) && c >= 0 && c < inboxes.get(a).get(b).size() ? inboxes.get(a).get(b).get(c) : -1;
                case 11: return has(a, 0) ? inboxes.get(a).remove(0).size() : -1;
                case 12: return bit(a) ? drafts.get(a).size() : -1;
                default: return b == 0 ? (inbox(a) ? totals[a] : -1) : settled();
            }
        }

        private static boolean bit(int n) {
            return n == 0 || n == 1;
        }

        private static boolean inbox(int n) {
            return n >= 0 && n <= 3;
        }

        private boolean has(int inbox, int i) {
            return inbox(inbox) && i >= 0 && i < inboxes.get(inbox).size();
        }

        private int write(int e, int b) {
            if (!bit(e) || b < 0 || b > 255) {
                return -1;
            }
            if (drafts.get(e).size() == 24) {
                return -2;
            }
            drafts.get(e).add(b);
            return drafts.get(e).size();
        }

        private int wipe(int e) {
            if (!bit(e)) {
                return -1;
            }
            int had = drafts.get(e).size();
            drafts.get(e).clear();
            return had;
        }

        private int post(int e, int channel) {
            if (!bit(e) || !bit(channel)) {
                return -1;
            }
            ArrayDeque<List<Integer>> list = waiting.get(e + 2 * channel);
            if (list.size() == 8) {
                return -2;
            }
            list.add(new ArrayList<>(drafts.get(e)));
            drafts.get(e).clear();
            return list.size();
        }

        private int settle() {
            int count = 0;
            for (int port = 0; port < 4; port++) {
                while (!waiting.get(port).isEmpty() && inboxes.get(port ^ 1).size() < 5) {
                    inboxes.get(port ^ 1).add(waiting.get(port).remove());
                    totals[port ^ 1]++;
                    count++;
                }
            }
            return count;
        }

        private int settled() {
            for (int port = 0; port < 4; port++) {
                if (!waiting.get(port).isEmpty() && inboxes.get(port ^ 1).size() < 5) {
                    return 0;
                }
            }
            return 1;
        }
    }
}
