import java.util.ArrayList;
import java.util.List;

/**
 * "No call ever throws. A refused call answers the code named and changes nothing." Every call that
 * is refused, in every number of images and of snapshots, is followed by all that other calls can
 * tell; they must tell what they tell of an object for which the refused call was not made.
 */
public final class ImageChainRefusals {
    private static final int MIN = Integer.MIN_VALUE;
    private static final int MAX = Integer.MAX_VALUE;
    private static final int MOST_CALLS = 512;
    private static final int[] NO_CLUSTERS = {-1, 16, 17, -16, MIN, MAX};
    private static final int[] ARGUMENTS = {MIN, MIN + 1, -17, -16, -1, 0, 1, 3, 4, 5, 14, 15, 16, 17, 64, MAX - 1, MAX};
    private static final String[] LOOKS = {"asking", "marks", "layers", "pulls", "snapshots", "backup", "room"};
    private static final String[] METHODS = {
        "write", "fill", "discard", "read", "said", "length", "overlay", "commit", "abandon", "pull", "snapshot",
        "revert", "forget", "snapshots", "peek", "marked", "backup", "saved", "behind", "check", "digest"
    };

    private static int wrong = 0;
    private static int refusals = 0;

    private static void fault(String text) {
        wrong++;
        System.out.println(text);
    }

    /** A call with its arguments, those that the method lacks being 0, and the answer that is due. */
    private static final class Call {
        private final String method;
        private final int a;
        private final int b;
        private final int w;
        private final int due;

        Call(String method, int a, int b, int w, int due) {
            this.method = method;
            this.a = a;
            this.b = b;
            this.w = w;
            this.due = due;
        }

        @Override
        public String toString() {
            return method + " with " + a + ", " + b + ", " + w;
        }
    }

    /** An object under test, used for no more calls than the document grants it. */
    private static final class Subject {
        private final ImageChain x = new ImageChain();
        private int calls = 0;

        int call(String method, int a, int b, int w) {
            calls++;
            if (calls > MOST_CALLS) {
                throw new IllegalStateException("the test itself makes too many calls");
            }
            try {
                return ask(x, method, a, b, w);
            } catch (RuntimeException | Error thrown) {
                fault(method + " with " + a + ", " + b + ", " + w + " threw " + thrown);
                return 0;
            }
        }

        int call(String method, int a) {
            return call(method, a, 0, 0);
        }

        int call(String method) {
            return call(method, 0, 0, 0);
        }

        void make(Call refused, String where) {
            int got = call(refused.method, refused.a, refused.b, refused.w);
            if (got != refused.due) {
                fault(where + ": " + refused + " answered " + got + ", due is " + refused.due);
            }
        }
    }

    private static int ask(ImageChain x, String method, int a, int b, int w) {
        switch (method) {
            case "write": return x.write(a, w);
            case "fill": return x.fill(a, b, w);
            case "discard": return x.discard(a);
            case "read": return x.read(a);
            case "said": return x.said(a) ? 1 : 0;
            case "length": return x.length();
            case "overlay": return x.overlay();
            case "commit": return x.commit();
            case "abandon": return x.abandon();
            case "pull": return x.pull();
            case "snapshot": return x.snapshot();
            case "revert": return x.revert(a);
            case "forget": return x.forget(a);
            case "snapshots": return x.snapshots();
            case "peek": return x.peek(a, b);
            case "marked": return x.marked();
            case "backup": return x.backup();
            case "saved": return x.saved(a);
            case "behind": return x.behind();
            case "check": return x.check();
            case "digest": return x.digest();
            default: throw new IllegalArgumentException(method);
        }
    }

    /**
     * A state with so many images and snapshots. Each image says words of its own for some clusters,
     * 0 among them, and nothing for others; so does each snapshot. Some clusters are marked, one of
     * them with the word that the backup has. A bare state says nothing, and nothing is marked.
     */
    private static final class State {
        private final int images;
        private final int snapshots;
        private final boolean bare;

        State(int images, int snapshots, boolean bare) {
            this.images = images;
            this.snapshots = snapshots;
            this.bare = bare;
        }

        Subject build() {
            Subject x = new Subject();
            for (int i = 0; i < images; i++) {
                if (i > 0) {
                    x.call("overlay");
                }
                if (!bare) {
                    sayWords(x, i);
                }
            }
            for (int s = 0; s < snapshots; s++) {
                x.call("snapshot");
                if (!bare) {
                    x.call("write", 5 + s, 0, 200 + s);
                    x.call("discard", s);
                }
            }
            if (!bare) {
                markSome(x);
            }
            return x;
        }

        private static void sayWords(Subject x, int image) {
            x.call("fill", image, image + 9, 10 + image);
            x.call("write", 2 * image + 1, 0, 0);
            x.call("write", 15, 0, MIN + image);
            x.call("discard", image + 4);
        }

        private static void markSome(Subject x) {
            x.call("backup");
            x.call("write", 0, 0, 55);
            x.call("write", 15, 0, MAX);
            x.call("write", 8, 0, 56);
            int word = x.call("read", 14);
            x.call("write", 14, 0, ~word);
            x.call("write", 14, 0, word);
        }

        @Override
        public String toString() {
            return images + " images, " + snapshots + " snapshots" + (bare ? ", nothing said" : "");
        }
    }

    private static List<State> states() {
        List<State> all = new ArrayList<>();
        for (int images = 1; images <= 4; images++) {
            for (int snapshots = 0; snapshots <= 4; snapshots++) {
                all.add(new State(images, snapshots, false));
                all.add(new State(images, snapshots, true));
            }
        }
        return all;
    }

    private static String look(Subject x, String way) {
        StringBuilder text = new StringBuilder(way + ":");
        switch (way) {
            case "asking": askAll(x, text); break;
            case "marks": seekMarks(x, text); break;
            case "layers": seekLayers(x, text); break;
            case "pulls": seekPulls(x, text); break;
            case "snapshots": seekSnapshots(x, text); break;
            case "backup": seekBackup(x, text); break;
            default: seekRoom(x, text);
        }
        return text.toString();
    }

    private static void add(StringBuilder text, int answer) {
        text.append(' ').append(answer);
    }

    private static void askAll(Subject x, StringBuilder text) {
        for (String method : new String[] {"length", "snapshots", "marked", "behind", "digest"}) {
            add(text, x.call(method));
        }
        for (int c = 0; c < 16; c++) {
            add(text, x.call("read", c));
            add(text, x.call("said", c));
            add(text, x.call("saved", c));
            for (int s = 0; s < 4; s++) {
                add(text, x.call("peek", s, c, 0));
            }
        }
    }

    private static void askTop(Subject x, StringBuilder text) {
        for (int c = 0; c < 16; c++) {
            add(text, x.call("read", c));
            add(text, x.call("said", c));
        }
    }

    /** Which clusters are marked shows when each gets another word and the count rises or stays. */
    private static void seekMarks(Subject x, StringBuilder text) {
        for (int c = 0; c < 16; c++) {
            add(text, x.call("write", c, 0, ~x.call("read", c)));
            add(text, x.call("marked"));
        }
    }

    private static void forgetAll(Subject x, StringBuilder text) {
        for (int s = 0; s < 5; s++) {
            add(text, x.call("forget"));
        }
    }

    private static void seekLayers(Subject x, StringBuilder text) {
        forgetAll(x, text);
        for (int i = 0; i < 4; i++) {
            askTop(x, text);
            add(text, x.call("abandon"));
            add(text, x.call("marked"));
        }
    }

    private static void seekPulls(Subject x, StringBuilder text) {
        for (int i = 0; i < 4; i++) {
            askTop(x, text);
            add(text, x.call("pull"));
            add(text, x.call("length"));
            add(text, x.call("peek", 0, 4, 0));
        }
        forgetAll(x, text);
        add(text, x.call("commit"));
    }

    private static void seekSnapshots(Subject x, StringBuilder text) {
        for (int s = 0; s < 4; s++) {
            add(text, x.call("revert", s));
            add(text, x.call("marked"));
            askTop(x, text);
        }
    }

    private static void seekBackup(Subject x, StringBuilder text) {
        add(text, x.call("backup"));
        add(text, x.call("marked"));
        add(text, x.call("behind"));
        for (int c = 0; c < 16; c++) {
            add(text, x.call("saved", c));
        }
        add(text, x.call("backup"));
    }

    /** How many images and snapshots still find room. */
    private static void seekRoom(Subject x, StringBuilder text) {
        for (int i = 0; i < 5; i++) {
            add(text, x.call("overlay"));
            askTop(x, text);
        }
        for (int s = 0; s < 5; s++) {
            add(text, x.call("snapshot"));
        }
        add(text, x.call("length"));
        add(text, x.call("snapshots"));
    }

    private static List<Call> refused(State state) {
        List<Call> calls = new ArrayList<>();
        addBadClusters(calls);
        addBadFills(calls);
        addBadSnapshots(calls, state.snapshots);
        if (state.images == 4) {
            calls.add(new Call("overlay", 0, 0, 0, ImageChain.FULL));
        } else if (state.snapshots > 0) {
            calls.add(new Call("overlay", 0, 0, 0, ImageChain.NONE));
        }
        if (state.images == 1 || state.snapshots > 0) {
            calls.add(new Call("commit", 0, 0, 0, ImageChain.NONE));
            calls.add(new Call("abandon", 0, 0, 0, ImageChain.NONE));
        }
        if (state.images == 1) {
            calls.add(new Call("pull", 0, 0, 0, ImageChain.NONE));
        }
        if (state.snapshots == 4) {
            calls.add(new Call("snapshot", 0, 0, 0, ImageChain.FULL));
        }
        return calls;
    }

    private static void addBadClusters(List<Call> calls) {
        for (int c : NO_CLUSTERS) {
            calls.add(new Call("write", c, 0, 99, ImageChain.BAD_ARG));
            calls.add(new Call("write", c, 0, 0, ImageChain.BAD_ARG));
            calls.add(new Call("discard", c, 0, 0, ImageChain.BAD_ARG));
            calls.add(new Call("read", c, 0, 0, 0));
            calls.add(new Call("said", c, 0, 0, 0));
            calls.add(new Call("saved", c, 0, 0, 0));
            calls.add(new Call("peek", 0, c, 0, 0));
        }
    }

    private static void addBadFills(List<Call> calls) {
        for (int outside : NO_CLUSTERS) {
            calls.add(new Call("fill", outside, 15, 99, ImageChain.BAD_ARG));
            calls.add(new Call("fill", outside, 0, 99, ImageChain.BAD_ARG));
            calls.add(new Call("fill", 0, outside, 99, ImageChain.BAD_ARG));
            calls.add(new Call("fill", 15, outside, 99, ImageChain.BAD_ARG));
            calls.add(new Call("fill", outside, outside, 99, ImageChain.BAD_ARG));
        }
        calls.add(new Call("fill", MIN, MAX, 99, ImageChain.BAD_ARG));
        calls.add(new Call("fill", MAX, MIN, 99, ImageChain.BAD_ARG));
        calls.add(new Call("fill", -1, 16, 99, ImageChain.BAD_ARG));
        calls.add(new Call("fill", 1, 0, 99, ImageChain.BAD_ARG));
        calls.add(new Call("fill", 8, 7, 99, ImageChain.BAD_ARG));
        calls.add(new Call("fill", 15, 14, 99, ImageChain.BAD_ARG));
        calls.add(new Call("fill", 15, 0, 99, ImageChain.BAD_ARG));
    }

    private static void addBadSnapshots(List<Call> calls, int snapshots) {
        for (int s : new int[] {-1, snapshots, snapshots + 1, 4, 5, MIN, MAX}) {
            calls.add(new Call("revert", s, 0, 0, ImageChain.NONE));
            calls.add(new Call("forget", s, 0, 0, ImageChain.NONE));
            calls.add(new Call("peek", s, 0, 0, 0));
            calls.add(new Call("peek", s, 15, 0, 0));
        }
    }

    private static void compare(String where, Subject x, String way, String want) {
        String got = look(x, way);
        if (!got.equals(want)) {
            fault(where + " changed what is told by " + want + " to " + got);
        }
    }

    private static void refusedCallsChangeNothing(State state) {
        List<Call> calls = refused(state);
        for (String way : LOOKS) {
            String want = look(state.build(), way);
            for (Call call : calls) {
                Subject x = state.build();
                x.make(call, state.toString());
                compare(state + ": " + call, x, way, want);
                refusals++;
            }
            Subject all = state.build();
            for (Call call : calls) {
                all.make(call, state.toString());
            }
            compare(state + ": all refused calls in turn", all, way, want);
        }
    }

    /** What is asked of an object, and check, change nothing either. */
    private static void questionsChangeNothing(State state) {
        for (String way : LOOKS) {
            String want = look(state.build(), way);
            Subject asked = state.build();
            askAll(asked, new StringBuilder());
            compare(state + ": all questions", asked, way, want);
            Subject checked = state.build();
            checked.make(new Call("check", 0, 0, 0, 0), state.toString());
            compare(state + ": check", checked, way, want);
        }
    }

    private static boolean isSecondUsed(String method) {
        return method.equals("fill") || method.equals("peek");
    }

    private static void noCallThrows(State state) {
        for (String method : METHODS) {
            for (int a : ARGUMENTS) {
                for (int b : isSecondUsed(method) ? ARGUMENTS : new int[] {0}) {
                    for (int w : new int[] {MIN, 0, MAX}) {
                        Subject x = state.build();
                        x.call(method, a, b, w);
                        x.call(method, a, b, w);
                        askAll(x, new StringBuilder());
                    }
                }
            }
        }
    }

    /** Each method once more after the state was changed as far as it goes, to the end of its calls. */
    private static void noCallThrowsToTheEnd(State state) {
        for (String first : METHODS) {
            Subject x = state.build();
            for (int turn = 0; x.calls + 2 <= MOST_CALLS; turn++) {
                x.call(first, turn % 16, 15, turn);
                x.call(METHODS[turn % METHODS.length], turn % 5, turn % 16, turn);
            }
        }
    }

    public static void main(String[] args) {
        for (State state : states()) {
            refusedCallsChangeNothing(state);
            questionsChangeNothing(state);
            noCallThrows(state);
            noCallThrowsToTheEnd(state);
        }
        System.out.println(wrong == 0
            ? "all answers are as due, " + refusals + " refusals looked at"
            : wrong + " faults");
        if (wrong != 0) {
            System.exit(1);
        }
    }
}
