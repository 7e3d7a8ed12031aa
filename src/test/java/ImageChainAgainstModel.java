import java.util.ArrayList;
import java.util.HashMap;
import java.util.List;
import java.util.Map;
import java.util.Set;
import java.util.TreeSet;

/**
 * Long runs of mixed calls, each answer compared with that of a second program, written from the
 * document's words with maps. The runs are the same each time: their choices come from a fixed seed.
 */
public final class ImageChainAgainstModel {
    private static final int RUNS = 4000;
    private static final int CALLS = 260;
    private static final int MOST_CALLS = 512;
    private static final int[] WORDS = {0, 0, 1, 1, 2, 3, -1, Integer.MAX_VALUE, Integer.MIN_VALUE, 0x12345678};
    private static final int[] ODD = {-1, 16, 17, 4, -16, Integer.MIN_VALUE, Integer.MAX_VALUE};
    private static final String[] METHODS = {
        "write", "write", "write", "write", "fill", "fill", "discard", "discard", "discard", "read", "read",
        "said", "length", "overlay", "overlay", "commit", "abandon", "pull", "snapshot", "revert", "revert",
        "forget", "forget", "snapshots", "peek", "peek", "marked", "marked", "backup", "saved", "behind",
        "check", "digest"
    };

    private static int wrong = 0;
    private static long seed = 20261116L;

    /** The document's words with no thought of speed; a missing key is "nothing". */
    private static final class Model {
        private final List<Map<Integer, Integer>> chain = new ArrayList<>();
        private final List<Map<Integer, Integer>> snapshots = new ArrayList<>();
        private final Set<Integer> marks = new TreeSet<>();
        private final int[] backup = new int[16];

        Model() {
            chain.add(new HashMap<>());
        }

        private Map<Integer, Integer> top() {
            return chain.get(chain.size() - 1);
        }

        private static int[] disk(List<Map<Integer, Integer>> images) {
            int[] words = new int[16];
            for (Map<Integer, Integer> image : images) {
                image.forEach((c, w) -> words[c] = w);
            }
            return words;
        }

        private static boolean in(int i, int end) {
            return 0 <= i && i < end;
        }

        /** Marks by comparing the whole disk before and after, whatever the call did. */
        int call(String method, int a, int b, int w) {
            int[] before = disk(chain);
            int answer = answer(method, a, b, w);
            int[] after = disk(chain);
            int changed = 0;
            for (int c = 0; c < 16; c++) {
                if (before[c] != after[c]) {
                    marks.add(c);
                    changed++;
                }
            }
            boolean answersChanges = method.equals("write") || method.equals("fill") || method.equals("revert");
            return answersChanges && answer >= 0 ? changed : answer;
        }

        private int answer(String method, int a, int b, int w) {
            switch (method) {
                case "write": return fill(a, a, w);
                case "fill": return fill(a, b, w);
                case "discard": return !in(a, 16) ? -1 : top().remove(a) != null ? 1 : 0;
                case "read": return in(a, 16) ? disk(chain)[a] : 0;
                case "said": return top().containsKey(a) ? 1 : 0;
                case "length": return chain.size();
                case "overlay": return overlay();
                case "commit": return takeOff(true);
                case "abandon": return takeOff(false);
                case "pull": return pull();
                case "snapshot": return snapshot();
                case "revert": return revert(a);
                case "forget": return forget(a);
                case "snapshots": return snapshots.size();
                case "peek": return peek(a, b);
                case "marked": return marks.size();
                case "backup": return backup();
                case "saved": return in(a, 16) ? backup[a] : 0;
                case "behind": return behind();
                case "check": return 0;
                case "digest": return digest();
                default: throw new IllegalArgumentException(method);
            }
        }

        private int fill(int c, int d, int w) {
            if (!in(c, 16) || !in(d, 16) || c > d) {
                return -1;
            }
            for (int i = c; i <= d; i++) {
                top().put(i, w);
            }
            return 0;
        }

        private int overlay() {
            if (chain.size() == 4) {
                return -2;
            }
            if (!snapshots.isEmpty()) {
                return -4;
            }
            chain.add(new HashMap<>());
            return chain.size();
        }

        private int takeOff(boolean keepWords) {
            if (chain.size() == 1 || !snapshots.isEmpty()) {
                return -4;
            }
            Map<Integer, Integer> off = chain.remove(chain.size() - 1);
            if (keepWords) {
                top().putAll(off);
            }
            return off.size();
        }

        private int pull() {
            if (chain.size() == 1) {
                return -4;
            }
            Map<Integer, Integer> below = chain.remove(chain.size() - 2);
            below.forEach((c, w) -> top().putIfAbsent(c, w));
            return chain.size();
        }

        private int snapshot() {
            if (snapshots.size() == 4) {
                return -2;
            }
            snapshots.add(new HashMap<>(top()));
            return snapshots.size() - 1;
        }

        private int revert(int s) {
            if (!in(s, snapshots.size())) {
                return -4;
            }
            chain.set(chain.size() - 1, new HashMap<>(snapshots.get(s)));
            return 0;
        }

        private int forget(int s) {
            if (!in(s, snapshots.size())) {
                return -4;
            }
            snapshots.remove(s);
            return snapshots.size();
        }

        /** As the promise puts it: revert a copy and read there. */
        private int peek(int s, int c) {
            if (!in(s, snapshots.size()) || !in(c, 16)) {
                return 0;
            }
            List<Map<Integer, Integer>> copy = new ArrayList<>(chain);
            copy.set(copy.size() - 1, snapshots.get(s));
            return disk(copy)[c];
        }

        private int backup() {
            int count = marks.size();
            int[] words = disk(chain);
            for (int c : marks) {
                backup[c] = words[c];
            }
            marks.clear();
            return count;
        }

        private int behind() {
            int[] words = disk(chain);
            int count = 0;
            for (int c = 0; c < 16; c++) {
                count += words[c] == backup[c] ? 0 : 1;
            }
            return count;
        }

        private int digest() {
            int[] words = disk(chain);
            long sum = 0;
            for (int c = 0; c < 16; c++) {
                sum += (c + 1L) * words[c];
            }
            return (int) sum;
        }
    }

    private static int ask(ImageChain x, String method, int a, int b, int w) {
        switch (method) {
            case "write": return x.write(a, w);
            case "fill": return x.fill(a, b, w);
            case "discard": return x.discard(a);
            case "read": return x.read(a);
            case "said": return x.said(a) ? 1 : 0;
            case "length": return x.length();
            case "overlay": return x.overlay();
            case "commit": return x.commit();
            case "abandon": return x.abandon();
            case "pull": return x.pull();
            case "snapshot": return x.snapshot();
            case "revert": return x.revert(a);
            case "forget": return x.forget(a);
            case "snapshots": return x.snapshots();
            case "peek": return x.peek(a, b);
            case "marked": return x.marked();
            case "backup": return x.backup();
            case "saved": return x.saved(a);
            case "behind": return x.behind();
            case "check": return x.check();
            case "digest": return x.digest();
            default: throw new IllegalArgumentException(method);
        }
    }

    /** One object beside its model, for as many calls as the document grants an object. */
    private static final class Pair {
        private final int run;
        private final ImageChain x = new ImageChain();
        private final Model model = new Model();
        private int calls = 0;

        Pair(int run) {
            this.run = run;
        }

        int call(String method, int a, int b, int w) {
            calls++;
            if (calls > MOST_CALLS) {
                throw new IllegalStateException("the test itself makes too many calls");
            }
            int got = ask(x, method, a, b, w);
            int want = model.call(method, a, b, w);
            if (got != want) {
                wrong++;
                if (wrong <= 20) {
                    System.out.println("run " + run + ", call " + calls + ": " + method + " with " + a + ", " + b + ", "
                        + w + " answered " + got + ", due is " + want);
                }
            }
            return want;
        }

        int call(String method) {
            return call(method, 0, 0, 0);
        }

        /** Looks at all that the object holds, down to the lowest image. */
        void lookOver() {
            for (String method : new String[] {"length", "snapshots", "marked", "behind", "digest"}) {
                call(method);
            }
            for (int c = 0; c < 16; c++) {
                call("saved", c, 0, 0);
                for (int s = 0; s < 4; s++) {
                    call("peek", s, c, 0);
                }
            }
            while (model.snapshots.size() > 0) {
                call("forget");
            }
            do {
                for (int c = 0; c < 16; c++) {
                    call("read", c, 0, 0);
                    call("said", c, 0, 0);
                }
            } while (call("abandon") >= 0);
            call("backup");
            call("behind");
        }
    }

    private static int choose(int end) {
        seed = seed * 6364136223846793005L + 1442695040888963407L;
        return (int) ((seed >>> 33) % end);
    }

    private static int argument(int usual) {
        return choose(12) == 0 ? ODD[choose(ODD.length)] : choose(usual);
    }

    private static boolean takesSnapshotFirst(String method) {
        return method.equals("revert") || method.equals("forget") || method.equals("peek");
    }

    /** Every second run goes on to the last call that an object is granted; the others look it over. */
    private static void run(int number) {
        Pair pair = new Pair(number);
        boolean toTheEnd = number % 2 == 0;
        for (int i = 0; i < (toTheEnd ? MOST_CALLS : CALLS); i++) {
            String method = METHODS[choose(METHODS.length)];
            int a = argument(takesSnapshotFirst(method) ? 5 : 16);
            int b = argument(16);
            boolean swap = method.equals("fill") && a > b && choose(8) != 0;
            pair.call(method, swap ? b : a, swap ? a : b, WORDS[choose(WORDS.length)]);
        }
        if (!toTheEnd) {
            pair.lookOver();
        }
    }

    public static void main(String[] args) {
        for (int number = 1; number <= RUNS; number++) {
            run(number);
        }
        System.out.println(wrong == 0 ? "all answers are as due" : wrong + " answers are not as due");
        if (wrong != 0) {
            System.exit(1);
        }
    }
}
