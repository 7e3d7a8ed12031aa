/** Every promise of the document by itself: ordinary inputs, the edges it names, and wrong inputs. */
public final class ImageChainPromises {
    private static final int MIN = Integer.MIN_VALUE;
    private static final int MAX = Integer.MAX_VALUE;
    private static final int[] NO_CLUSTERS = {-1, 16, 17, -16, MIN, MAX};

    private static int wrong = 0;

    private static void due(String call, long got, long want) {
        if (got != want) {
            wrong++;
            System.out.println(call + " answered " + got + ", due is " + want);
        }
    }

    private static void due(String call, boolean got, boolean want) {
        due(call, got ? 1 : 0, want ? 1 : 0);
    }

    private static void same(String call, String got, String want) {
        if (!got.equals(want)) {
            wrong++;
            System.out.println(call + " changed the state from " + want + " to " + got);
        }
    }

    /** All that can be asked without a change: 117 calls, so at most four times for one object. */
    private static String state(ImageChain x) {
        StringBuilder text = new StringBuilder();
        for (int c = 0; c < 16; c++) {
            text.append(x.read(c)).append(x.said(c) ? "! " : "? ").append(x.saved(c)).append(' ');
        }
        for (int s = 0; s < 4; s++) {
            for (int c = 0; c < 16; c++) {
                text.append(x.peek(s, c)).append(' ');
            }
        }
        text.append(x.length()).append(' ').append(x.snapshots()).append(' ').append(x.marked());
        text.append(' ').append(x.behind()).append(' ').append(x.digest());
        return text.toString();
    }

    /** Two images, two snapshots of the top, a backup, and marks since it. */
    private static ImageChain busy() {
        ImageChain x = new ImageChain();
        x.fill(0, 7, 3);
        x.backup();
        x.overlay();
        x.fill(2, 4, 5);
        x.snapshot();
        x.write(3, 0);
        x.write(12, -9);
        x.snapshot();
        x.discard(2);
        return x;
    }

    private static void promise1New() {
        ImageChain x = new ImageChain();
        for (int c = 0; c < 16; c++) {
            due("new: read(" + c + ")", x.read(c), 0);
            due("new: said(" + c + ")", x.said(c), false);
            due("new: saved(" + c + ")", x.saved(c), 0);
            due("new: peek(0, " + c + ")", x.peek(0, c), 0);
        }
        due("new: length()", x.length(), 1);
        due("new: snapshots()", x.snapshots(), 0);
        due("new: marked()", x.marked(), 0);
        due("new: behind()", x.behind(), 0);
        due("new: digest()", x.digest(), 0);
        due("new: backup()", x.backup(), 0);
        ImageChain other = new ImageChain();
        other.write(1, 1);
        due("new: read(1) after a write to another object", x.read(1), 0);
        due("BAD_ARG", ImageChain.BAD_ARG, -1);
        due("FULL", ImageChain.FULL, -2);
        due("NONE", ImageChain.NONE, -4);
    }

    private static void promise2Write() {
        ImageChain x = new ImageChain();
        due("write: first", x.write(0, 5), 1);
        due("write: same word", x.write(0, 5), 0);
        due("write: last cluster", x.write(15, MIN), 1);
        due("write: read(15)", x.read(15), MIN);
        due("write: 0 over nothing", x.write(7, 0), 0);
        due("write: 0 over nothing is said", x.said(7), true);
        due("write: marked()", x.marked(), 2);
        x.overlay();
        due("write: the word from below", x.write(0, 5), 0);
        due("write: the word from below is said", x.said(0), true);
        due("write: 0 over a word below", x.write(15, 0), 1);
        due("write: read(15) is 0", x.read(15), 0);
        x.abandon();
        due("write: below is untouched", x.read(15), MIN);
        for (int c : NO_CLUSTERS) {
            ImageChain y = busy();
            String before = state(y);
            due("write(" + c + ", 1)", y.write(c, 1), ImageChain.BAD_ARG);
            same("write(" + c + ", 1)", state(y), before);
        }
    }

    private static void promise3Fill() {
        ImageChain x = new ImageChain();
        due("fill: all", x.fill(0, 15, 1), 16);
        due("fill: one cluster", x.fill(4, 4, 2), 1);
        due("fill: only those that change", x.fill(3, 5, 2), 2);
        due("fill: read(2)", x.read(2), 1);
        due("fill: read(3)", x.read(3), 2);
        due("fill: read(5)", x.read(5), 2);
        due("fill: read(6)", x.read(6), 1);
        due("fill: marked()", x.backup(), 16);
        x.overlay();
        due("fill: some change", x.fill(5, 8, 1), 1);
        due("fill: only what changes is marked", x.marked(), 1);
        due("fill: said(4)", x.said(4), false);
        due("fill: said(5)", x.said(5), true);
        due("fill: said(8)", x.said(8), true);
        due("fill: said(9)", x.said(9), false);
        due("fill: last cluster", x.fill(15, 15, -1), 1);
        due("fill: first cluster", x.fill(0, 0, MAX), 1);
        refuseFill(5, 4);
        refuseFill(15, 0);
        for (int c : NO_CLUSTERS) {
            refuseFill(c, 15);
            refuseFill(0, c);
            refuseFill(c, c);
        }
        refuseFill(MIN, MAX);
    }

    private static void refuseFill(int c, int d) {
        ImageChain x = busy();
        String before = state(x);
        due("fill(" + c + ", " + d + ", 1)", x.fill(c, d, 1), ImageChain.BAD_ARG);
        same("fill(" + c + ", " + d + ", 1)", state(x), before);
    }

    private static void promise4Discard() {
        ImageChain x = new ImageChain();
        due("discard: nothing said", x.discard(0), 0);
        x.write(0, 4);
        x.write(15, 0);
        x.backup();
        due("discard: a word", x.discard(0), 1);
        due("discard: again", x.discard(0), 0);
        due("discard: read(0)", x.read(0), 0);
        due("discard: marked()", x.marked(), 1);
        due("discard: a word of 0", x.discard(15), 1);
        due("discard: no change, no mark", x.marked(), 1);
        x.fill(1, 2, 6);
        x.backup();
        x.overlay();
        x.write(1, 6);
        x.write(2, 7);
        x.backup();
        due("discard: the same word below", x.discard(1), 1);
        due("discard: the same word below, no mark", x.marked(), 0);
        due("discard: another word below", x.discard(2), 1);
        due("discard: another word below, a mark", x.marked(), 1);
        due("discard: the word below shows", x.read(2), 6);
        due("discard: the top alone", x.discard(2), 0);
        for (int c : NO_CLUSTERS) {
            ImageChain y = busy();
            String before = state(y);
            due("discard(" + c + ")", y.discard(c), ImageChain.BAD_ARG);
            same("discard(" + c + ")", state(y), before);
        }
    }

    private static void promise5Read() {
        ImageChain x = new ImageChain();
        x.fill(0, 15, 1);
        x.overlay();
        x.fill(0, 11, 2);
        x.overlay();
        x.fill(0, 7, 0);
        x.overlay();
        x.fill(0, 3, MAX);
        for (int c = 0; c < 16; c++) {
            due("read(" + c + ")", x.read(c), c < 4 ? MAX : c < 8 ? 0 : c < 12 ? 2 : 1);
        }
        for (int c : NO_CLUSTERS) {
            due("read(" + c + ")", x.read(c), 0);
        }
    }

    private static void promise6Said() {
        ImageChain x = new ImageChain();
        x.write(0, 1);
        x.write(15, 0);
        due("said(0)", x.said(0), true);
        due("said(1)", x.said(1), false);
        due("said(15), a word of 0", x.said(15), true);
        x.overlay();
        due("said(0), by the image below", x.said(0), false);
        x.fill(0, 15, 1);
        for (int c : NO_CLUSTERS) {
            due("said(" + c + ")", x.said(c), false);
        }
    }

    private static void promise7Length() {
        ImageChain x = new ImageChain();
        x.overlay();
        due("length: after overlay", x.length(), 2);
        x.overlay();
        x.overlay();
        due("length: the most", x.length(), 4);
        x.overlay();
        due("length: after a refused overlay", x.length(), 4);
        x.commit();
        due("length: after commit", x.length(), 3);
        x.abandon();
        due("length: after abandon", x.length(), 2);
        x.pull();
        due("length: after pull", x.length(), 1);
        x.pull();
        x.commit();
        x.abandon();
        due("length: never 0", x.length(), 1);
    }

    private static void promise8Overlay() {
        ImageChain x = new ImageChain();
        x.write(3, 8);
        x.backup();
        for (int n = 2; n <= 4; n++) {
            due("overlay: number", x.overlay(), n);
            due("overlay: says nothing", x.said(3), false);
            due("overlay: no change", x.read(3), 8);
        }
        due("overlay: no mark", x.marked(), 0);
        due("overlay: the fifth", x.overlay(), ImageChain.FULL);
        x.snapshot();
        due("overlay: FULL before NONE", x.overlay(), ImageChain.FULL);
        ImageChain y = busy();
        String before = state(y);
        due("overlay: with snapshots", y.overlay(), ImageChain.NONE);
        same("overlay: with snapshots", state(y), before);
        y.forget(0);
        due("overlay: with one snapshot", y.overlay(), ImageChain.NONE);
        y.forget(0);
        due("overlay: the snapshots gone", y.overlay(), 3);
        overlayAfterTakingOff();
    }

    private static void overlayAfterTakingOff() {
        for (int way = 0; way < 3; way++) {
            ImageChain x = new ImageChain();
            x.overlay();
            x.fill(0, 15, 4);
            int answer = way == 0 ? x.commit() : way == 1 ? x.abandon() : x.pull();
            due("overlay: taken off, way " + way, answer, way == 2 ? 1 : 16);
            x.overlay();
            for (int c = 0; c < 16; c++) {
                due("overlay: anew, way " + way + ", said(" + c + ")", x.said(c), false);
                due("overlay: anew, way " + way + ", read(" + c + ")", x.read(c), way == 1 ? 0 : 4);
            }
        }
    }

    private static void promise9Commit() {
        ImageChain x = new ImageChain();
        x.fill(0, 3, 1);
        x.overlay();
        x.fill(0, 3, 2);
        x.overlay();
        x.write(1, 0);
        x.write(2, 5);
        x.write(15, 6);
        x.backup();
        String words = disk(x);
        due("commit: words", x.commit(), 3);
        due("commit: length()", x.length(), 2);
        due("commit: no mark", x.marked(), 0);
        due("commit: said(1)", x.said(1), true);
        due("commit: said(15)", x.said(15), true);
        due("commit: said(0), as before", x.said(0), true);
        due("commit: said(4)", x.said(4), false);
        same("commit", disk(x), words);
        due("commit: the lowest is untouched", x.abandon() * 10 + x.read(2), 51);
        due("commit: one image", x.commit(), ImageChain.NONE);
        x.overlay();
        due("commit: a top that says nothing", x.commit(), 0);
        ImageChain y = busy();
        String before = state(y);
        due("commit: with snapshots", y.commit(), ImageChain.NONE);
        same("commit: with snapshots", state(y), before);
        y.forget(0);
        due("commit: with one snapshot", y.commit(), ImageChain.NONE);
        y.forget(0);
        due("commit: the snapshots gone", y.commit(), 3);
        ImageChain z = new ImageChain();
        z.write(1, 1);
        due("commit: one image with words", z.commit(), ImageChain.NONE);
        due("commit: one image keeps its words", z.read(1), 1);
    }

    private static String disk(ImageChain x) {
        StringBuilder text = new StringBuilder();
        for (int c = 0; c < 16; c++) {
            text.append(x.read(c)).append(' ');
        }
        return text.toString();
    }

    private static void promise10Abandon() {
        ImageChain x = new ImageChain();
        x.fill(0, 3, 1);
        x.overlay();
        x.write(0, 1);
        x.write(1, 0);
        x.write(9, 0);
        x.write(10, 7);
        x.backup();
        due("abandon: words", x.abandon(), 4);
        due("abandon: length()", x.length(), 1);
        due("abandon: only what changes is marked", x.marked(), 2);
        due("abandon: read(0)", x.read(0), 1);
        due("abandon: read(1)", x.read(1), 1);
        due("abandon: read(10)", x.read(10), 0);
        due("abandon: behind()", x.behind(), 2);
        due("abandon: one image", x.abandon(), ImageChain.NONE);
        due("abandon: one image keeps its words", x.read(0), 1);
        x.overlay();
        due("abandon: a top that says nothing", x.abandon(), 0);
        due("abandon: no further mark", x.marked(), 2);
        ImageChain y = busy();
        String before = state(y);
        due("abandon: with snapshots", y.abandon(), ImageChain.NONE);
        same("abandon: with snapshots", state(y), before);
        y.forget(0);
        due("abandon: with one snapshot", y.abandon(), ImageChain.NONE);
        y.forget(0);
        due("abandon: the snapshots gone", y.abandon(), 3);
        abandonFromFour();
    }

    private static void abandonFromFour() {
        ImageChain x = new ImageChain();
        for (int n = 1; n <= 4; n++) {
            x.fill(0, 15, n);
            x.overlay();
        }
        x.backup();
        for (int n = 3; n >= 1; n--) {
            due("abandon: all clusters said", x.abandon(), 16);
            due("abandon: all clusters change", x.backup(), 16);
            due("abandon: the word below", x.read(15), n);
        }
    }

    private static void promise11Pull() {
        ImageChain x = new ImageChain();
        x.fill(0, 15, 1);
        x.overlay();
        x.fill(2, 5, 2);
        x.write(6, 0);
        x.overlay();
        x.write(2, 3);
        x.write(3, 0);
        x.backup();
        String words = disk(x);
        due("pull: images", x.pull(), 2);
        due("pull: length()", x.length(), 2);
        due("pull: no mark", x.marked(), 0);
        same("pull", disk(x), words);
        due("pull: said(1)", x.said(1), false);
        due("pull: said(2)", x.said(2), true);
        due("pull: said(4), from below", x.said(4), true);
        due("pull: said(6), a 0 from below", x.said(6), true);
        due("pull: read(3), the top's 0 stays", x.read(3), 0);
        due("pull: the lowest is untouched", x.abandon() * 10 + x.read(3), 51);
        due("pull: one image", x.pull(), ImageChain.NONE);
        due("pull: one image keeps its words", x.read(3), 1);
        pullWithSnapshot();
    }

    private static void pullWithSnapshot() {
        ImageChain x = new ImageChain();
        x.fill(0, 15, 1);
        x.overlay();
        x.fill(0, 7, 2);
        x.overlay();
        x.write(0, 3);
        x.snapshot();
        due("pull: peek before", x.peek(0, 1), 2);
        due("pull: with a snapshot", x.pull(), 2);
        due("pull: snapshots stay", x.snapshots(), 1);
        due("pull: the snapshot says what it said", x.peek(0, 0), 3);
        due("pull: the snapshot got nothing", x.peek(0, 1), 1);
        due("pull: revert", x.revert(0), 7);
        due("pull: said(1) after revert", x.said(1), false);
        due("pull: to the last image", x.pull(), 1);
        due("pull: peek with no image below", x.peek(0, 1), 0);
        due("pull: revert with no image below", x.revert(0), 15);
        due("pull: refused with a snapshot", x.pull(), ImageChain.NONE);
    }

    private static void promise12Snapshot() {
        ImageChain x = new ImageChain();
        for (int s = 0; s < 4; s++) {
            x.write(s, 10 + s);
            due("snapshot: number", x.snapshot(), s);
        }
        x.write(9, 9);
        x.backup();
        String before = state(x);
        due("snapshot: the fifth", x.snapshot(), ImageChain.FULL);
        same("snapshot: the fifth", state(x), before);
        for (int s = 0; s < 4; s++) {
            for (int c = 0; c < 4; c++) {
                due("snapshot: peek(" + s + ", " + c + ")", x.peek(s, c), c <= s ? 10 + c : 0);
            }
        }
        x.forget(1);
        due("snapshot: a number anew", x.snapshot(), 3);
        due("snapshot: what the top says now", x.peek(3, 9), 9);
        due("snapshot: no mark", x.marked(), 0);
        ImageChain y = new ImageChain();
        y.write(0, 1);
        y.overlay();
        y.write(1, 2);
        y.snapshot();
        y.pull();
        due("snapshot: of the top alone", y.peek(0, 0), 0);
        due("snapshot: of what the top says", y.peek(0, 1), 2);
    }

    private static void promise13Revert() {
        ImageChain x = new ImageChain();
        x.fill(0, 7, 1);
        x.overlay();
        x.write(0, 1);
        x.write(1, 0);
        x.write(2, 5);
        x.snapshot();
        x.discard(0);
        x.discard(1);
        x.write(2, 6);
        x.write(3, 1);
        x.write(4, 9);
        x.backup();
        due("revert: changed", x.revert(0), 3);
        due("revert: marked()", x.marked(), 3);
        due("revert: behind()", x.behind(), 3);
        due("revert: said(0)", x.said(0), true);
        due("revert: said(1)", x.said(1), true);
        due("revert: read(1)", x.read(1), 0);
        due("revert: read(2)", x.read(2), 5);
        due("revert: said(3)", x.said(3), false);
        due("revert: said(4)", x.said(4), false);
        due("revert: read(4), from below", x.read(4), 1);
        due("revert: again", x.revert(0), 0);
        due("revert: the snapshot stays", x.snapshots(), 1);
        x.write(2, 8);
        due("revert: the snapshot is its own copy", x.peek(0, 2), 5);
        for (int s : new int[] {-1, 2, 3, 4, MIN, MAX}) {
            ImageChain y = busy();
            String before = state(y);
            due("revert(" + s + ")", y.revert(s), ImageChain.NONE);
            same("revert(" + s + ")", state(y), before);
        }
    }

    private static void promise14Forget() {
        for (int s = 0; s < 4; s++) {
            ImageChain x = new ImageChain();
            for (int i = 0; i < 4; i++) {
                x.write(0, 10 + i);
                x.write(i, 10 + i);
                x.snapshot();
            }
            x.backup();
            due("forget(" + s + ") of four", x.forget(s), 3);
            due("forget: snapshots()", x.snapshots(), 3);
            due("forget: the top stays", x.read(0), 13);
            due("forget: no mark", x.marked(), 0);
            for (int i = 0; i < 3; i++) {
                int old = i < s ? i : i + 1;
                due("forget(" + s + "): peek(" + i + ", 0)", x.peek(i, 0), 10 + old);
                due("forget(" + s + "): peek(" + i + ", 3)", x.peek(i, 3), old == 3 ? 13 : 0);
            }
            due("forget: no longer there", x.forget(3), ImageChain.NONE);
            due("forget: to two", x.forget(2), 2);
            due("forget: to one", x.forget(0), 1);
            due("forget: to none", x.forget(0), 0);
            due("forget: none left", x.forget(0), ImageChain.NONE);
        }
        for (int s : new int[] {-1, 2, 3, 4, MIN, MAX}) {
            ImageChain y = busy();
            String before = state(y);
            due("forget(" + s + ")", y.forget(s), ImageChain.NONE);
            same("forget(" + s + ")", state(y), before);
        }
        ImageChain z = new ImageChain();
        z.snapshot();
        z.fill(0, 15, 2);
        z.snapshot();
        z.forget(0);
        due("forget: the moved one says words", z.revert(0), 0);
        z.forget(0);
        due("forget: the gone one is not seen", z.peek(0, 0), 0);
    }

    private static void promise15Snapshots() {
        ImageChain x = new ImageChain();
        for (int n = 1; n <= 4; n++) {
            x.snapshot();
            due("snapshots: more", x.snapshots(), n);
        }
        x.snapshot();
        due("snapshots: after a refused one", x.snapshots(), 4);
        x.revert(0);
        due("snapshots: after revert", x.snapshots(), 4);
        for (int n = 3; n >= 0; n--) {
            x.forget(0);
            due("snapshots: fewer", x.snapshots(), n);
        }
    }

    private static void promise16Peek() {
        ImageChain x = busy();
        int[] first = {3, 3, 5, 5, 5, 3, 3, 3, 0, 0, 0, 0, 0, 0, 0, 0};
        int[] second = {3, 3, 5, 0, 5, 3, 3, 3, 0, 0, 0, 0, -9, 0, 0, 0};
        for (int c = 0; c < 16; c++) {
            due("peek(0, " + c + ")", x.peek(0, c), first[c]);
            due("peek(1, " + c + ")", x.peek(1, c), second[c]);
        }
        for (int s = 0; s < 2; s++) {
            for (int c : NO_CLUSTERS) {
                due("peek(" + s + ", " + c + ")", x.peek(s, c), 0);
            }
        }
        for (int s : new int[] {-1, 2, 3, 4, MIN, MAX}) {
            due("peek(" + s + ", 4)", x.peek(s, 4), 0);
            due("peek(" + s + ", 16)", x.peek(s, 16), 0);
        }
        for (int s = 0; s < 2; s++) {
            x.revert(s);
            for (int c = 0; c < 16; c++) {
                due("peek: read(" + c + ") after revert(" + s + ")", x.read(c), s == 0 ? first[c] : second[c]);
            }
        }
        ImageChain y = new ImageChain();
        y.snapshot();
        y.write(2, 4);
        due("peek: the top's word is not seen", y.peek(0, 2), 0);
        due("peek: nothing is changed", y.read(2), 4);
    }

    private static void promise17Marked() {
        ImageChain x = new ImageChain();
        x.write(0, 0);
        due("marked: no change", x.marked(), 0);
        x.write(0, 1);
        x.write(0, 2);
        due("marked: a cluster counts once", x.marked(), 1);
        x.write(0, 0);
        due("marked: changed back is still marked", x.marked(), 1);
        x.write(15, 1);
        due("marked: another", x.marked(), 2);
        due("marked: asking changes nothing", x.marked(), 2);
        x.fill(0, 15, 7);
        due("marked: all", x.marked(), 16);
        x.backup();
        due("marked: after backup", x.marked(), 0);
        x.fill(0, 15, 7);
        due("marked: the same words", x.marked(), 0);
    }

    private static void promise18Backup() {
        ImageChain x = new ImageChain();
        x.fill(0, 2, 5);
        due("backup: marked", x.backup(), 3);
        due("backup: again", x.backup(), 0);
        due("backup: saved(2)", x.saved(2), 5);
        due("backup: saved(3)", x.saved(3), 0);
        x.write(0, 6);
        due("backup: not written yet", x.saved(0), 5);
        x.write(0, 5);
        due("backup: marked though changed back", x.backup(), 1);
        x.overlay();
        x.write(1, 0);
        x.write(15, MIN);
        due("backup: over two images", x.backup(), 2);
        due("backup: a 0 is written", x.saved(1), 0);
        due("backup: saved(15)", x.saved(15), MIN);
        due("backup: the chain stays", x.read(15), MIN);
        x.abandon();
        due("backup: after abandon", x.backup(), 2);
        due("backup: saved(1) from below", x.saved(1), 5);
        due("backup: saved(15) from below", x.saved(15), 0);
        ImageChain y = busy();
        due("backup: with snapshots", y.backup(), 4);
        due("backup: snapshots stay", y.snapshots(), 2);
        due("backup: behind()", y.behind(), 0);
    }

    private static void promise19Saved() {
        ImageChain x = new ImageChain();
        for (int c = 0; c < 16; c++) {
            x.write(c, 100 - c);
        }
        x.backup();
        x.fill(0, 15, 1);
        for (int c = 0; c < 16; c++) {
            due("saved(" + c + ")", x.saved(c), 100 - c);
        }
        for (int c : NO_CLUSTERS) {
            due("saved(" + c + ")", x.saved(c), 0);
        }
    }

    private static void promise20Behind() {
        ImageChain x = new ImageChain();
        x.write(0, 1);
        x.write(15, 1);
        due("behind: two", x.behind(), 2);
        x.write(0, 0);
        due("behind: changed back, though marked", x.behind(), 1);
        due("behind: marked()", x.marked(), 2);
        x.backup();
        due("behind: after backup", x.behind(), 0);
        x.fill(0, 15, 1);
        due("behind: those that differ", x.behind(), 15);
        x.overlay();
        x.fill(0, 15, 0);
        due("behind: the top counts", x.behind(), 1);
    }

    private static void promise21Check() {
        due("check: new", new ImageChain().check(), 0);
        ImageChain x = busy();
        String before = state(x);
        due("check()", x.check(), 0);
        same("check()", state(x), before);
        due("check: again", x.check(), 0);
        due("check: marks stay", x.backup(), 4);
    }

    private static void promise22Digest() {
        ImageChain x = new ImageChain();
        for (int c = 0; c < 16; c++) {
            ImageChain y = new ImageChain();
            y.write(c, 10);
            due("digest: cluster " + c, y.digest(), 10 * (c + 1));
            x.write(c, c + 1);
        }
        due("digest: all", x.digest(), 1496);
        x.overlay();
        x.write(15, -1);
        due("digest: the top counts", x.digest(), 1496 - 256 - 16);
        x.write(0, MAX);
        due("digest: the sum wraps", x.digest(), MAX + 1496 - 256 - 16 - 1);
        ImageChain z = new ImageChain();
        z.write(2, MAX);
        due("digest: the product wraps", z.digest(), 3 * MAX);
        z.write(1, MIN);
        due("digest: both wrap", z.digest(), 3 * MAX + 2 * MIN);
    }

    public static void main(String[] args) {
        promise1New();
        promise2Write();
        promise3Fill();
        promise4Discard();
        promise5Read();
        promise6Said();
        promise7Length();
        promise8Overlay();
        promise9Commit();
        promise10Abandon();
        promise11Pull();
        promise12Snapshot();
        promise13Revert();
        promise14Forget();
        promise15Snapshots();
        promise16Peek();
        promise17Marked();
        promise18Backup();
        promise19Saved();
        promise20Behind();
        promise21Check();
        promise22Digest();
        System.out.println(wrong == 0 ? "all answers are as due" : wrong + " answers are not as due");
        if (wrong != 0) {
            System.exit(1);
        }
    }
}
