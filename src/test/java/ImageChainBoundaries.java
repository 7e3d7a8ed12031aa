/**
 * Each sentence of the document that names a boundary, by itself: too small, too large, empty, full,
 * a word of 0, a word that stays, a sum that wraps. That refused calls change nothing is tested in
 * ImageChainRefusals.
 */
public final class ImageChainBoundaries {
    private static final int MIN = Integer.MIN_VALUE;
    private static final int MAX = Integer.MAX_VALUE;
    private static final int[] NO_CLUSTERS = {-1, 16, MIN, MAX};
    private static final int[] WORDS = {1, -1, MIN, MAX};
    private static final int[] EDGES = {0, 15};

    private static int wrong = 0;
    private static String sentence = "";

    private static void says(String words) {
        sentence = words;
    }

    private static void due(String call, long got, long want) {
        if (got != want) {
            wrong++;
            System.out.println("[" + sentence + "] " + call + " answered " + got + ", due is " + want);
        }
    }

    private static void due(String call, boolean got, boolean want) {
        due(call, got ? 1 : 0, want ? 1 : 0);
    }

    private static ImageChain images(int count) {
        ImageChain x = new ImageChain();
        for (int n = 1; n < count; n++) {
            x.overlay();
        }
        return x;
    }

    /** As many images and snapshots of the top as told; each image says its number, from 1, everywhere. */
    private static ImageChain full(int images, int snapshots) {
        ImageChain x = new ImageChain();
        x.fill(0, 15, 1);
        for (int n = 2; n <= images; n++) {
            x.overlay();
            x.fill(0, 15, n);
        }
        for (int s = 0; s < snapshots; s++) {
            x.snapshot();
        }
        return x;
    }

    private static void forgetAll(ImageChain x) {
        for (int s = x.snapshots(); s > 0; s--) {
            x.forget(0);
        }
    }

    /** Below, at and above the numbers of the snapshots when there are so many. */
    private static int[] noSnapshots(int count) {
        return new int[] {-1, count, count + 1, 4, 5, MIN, MAX};
    }

    private static int bits(int set) {
        return Integer.bitCount(set);
    }

    /** Bit c is set if cluster c is marked. A mark shows when its cluster changes and the count stays. */
    private static int marksOf(ImageChain x) {
        int set = 0;
        for (int c = 0; c < 16; c++) {
            int before = x.marked();
            x.write(c, ~x.read(c));
            if (x.marked() == before) {
                set |= 1 << c;
            }
        }
        return set;
    }

    private static int saidBy(ImageChain x) {
        int set = 0;
        for (int c = 0; c < 16; c++) {
            set |= x.said(c) ? 1 << c : 0;
        }
        return set;
    }

    private static void allRead(String when, ImageChain x, int w) {
        for (int c = 0; c < 16; c++) {
            due(when + ", read(" + c + ")", x.read(c), w);
        }
    }

    // ---- What it is

    private static void the512thCall() {
        says("What it is: an object is used for at most 512 calls");
        ImageChain writes = new ImageChain();
        for (int i = 1; i <= 511; i++) {
            due("call " + i + ", write", writes.write(i & 15, i), 1);
        }
        due("call 512, read(15)", writes.read(15), 511);
        ImageChain snapshots = new ImageChain();
        for (int i = 0; i < 256; i++) {
            due("call " + (2 * i + 1) + ", snapshot", snapshots.snapshot(), 0);
            due("call " + (2 * i + 2) + ", forget", snapshots.forget(0), 0);
        }
        ImageChain backups = new ImageChain();
        for (int i = 0; i < 256; i++) {
            due("call " + (2 * i + 1) + ", write", backups.write(15, i + 1), 1);
            due("call " + (2 * i + 2) + ", backup", backups.backup(), 1);
        }
        ImageChain checks = new ImageChain();
        for (int i = 1; i <= 512; i++) {
            due("call " + i + ", check", checks.check(), 0);
        }
    }

    private static void the512thCallOnLayers() {
        says("What it is: an object is used for at most 512 calls");
        ImageChain commits = new ImageChain();
        ImageChain abandons = new ImageChain();
        ImageChain pulls = new ImageChain();
        for (int i = 0; i < 170; i++) {
            due("call " + (3 * i + 1) + ", overlay before commit", commits.overlay(), 2);
            due("call " + (3 * i + 2) + ", fill before commit", commits.fill(0, 15, i + 1), 16);
            due("call " + (3 * i + 3) + ", commit", commits.commit(), 16);
            due("call " + (3 * i + 1) + ", overlay before abandon", abandons.overlay(), 2);
            due("call " + (3 * i + 2) + ", fill before abandon", abandons.fill(0, 15, i + 1), 16);
            due("call " + (3 * i + 3) + ", abandon", abandons.abandon(), 16);
            due("call " + (3 * i + 1) + ", overlay before pull", pulls.overlay(), 2);
            due("call " + (3 * i + 2) + ", fill before pull", pulls.fill(0, 15, i + 1), 16);
            due("call " + (3 * i + 3) + ", pull", pulls.pull(), 1);
        }
        due("call 511, overlay after commits", commits.overlay(), 2);
        due("call 511, overlay after abandons", abandons.overlay(), 2);
        due("call 511, overlay after pulls", pulls.overlay(), 2);
        due("call 512, read after commits", commits.read(15), 170);
        due("call 512, read after abandons", abandons.read(15), 0);
        due("call 512, read after pulls", pulls.read(15), 170);
    }

    private static void the512thCallAfterRefusals() {
        says("What it is: an object is used for at most 512 calls");
        ImageChain x = new ImageChain();
        for (int i = 1; i <= 511; i++) {
            int answer = i % 4 == 0 ? x.write(16, i) : i % 4 == 1 ? x.commit() : i % 4 == 2 ? x.pull() : x.revert(0);
            due("call " + i + ", refused", answer, i % 4 == 0 ? -1 : -4);
        }
        due("call 512, fill", x.fill(0, 15, 1), 16);
    }

    // ---- Terms

    private static void sixteenClusters() {
        says("Terms: a disk has 16 clusters, 0 to 15, with a word (an int) each");
        for (int w : WORDS) {
            for (int c = 0; c < 16; c++) {
                ImageChain x = new ImageChain();
                x.write(c, w);
                for (int other = 0; other < 16; other++) {
                    due("write(" + c + ", " + w + "), read(" + other + ")", x.read(other), other == c ? w : 0);
                }
            }
        }
        ImageChain all = new ImageChain();
        for (int c = 0; c < 16; c++) {
            all.write(c, MAX - c);
        }
        for (int c = 0; c < 16; c++) {
            due("all written, read(" + c + ")", all.read(c), MAX - c);
        }
    }

    private static void zeroIsAWord() {
        says("Terms: an image says for each cluster either a word (which may be 0) or nothing");
        for (int c = 0; c < 16; c++) {
            ImageChain x = new ImageChain();
            x.fill(0, 15, 7);
            x.overlay();
            due("nothing said, said(" + c + ")", x.said(c), false);
            due("nothing said, read(" + c + ")", x.read(c), 7);
            x.write(c, 0);
            due("0 said, said(" + c + ")", x.said(c), true);
            due("0 said, read(" + c + ")", x.read(c), 0);
            x.discard(c);
            due("nothing said again, said(" + c + ")", x.said(c), false);
            due("nothing said again, read(" + c + ")", x.read(c), 7);
        }
    }

    private static void oneToFourImages() {
        says("Terms: the chain is a list of 1 to 4 images");
        ImageChain x = new ImageChain();
        due("length() of a new object", x.length(), 1);
        for (int i = 0; i < 6; i++) {
            x.overlay();
        }
        due("length() after 6 overlays", x.length(), 4);
        for (int i = 0; i < 6; i++) {
            x.abandon();
        }
        due("length() after 6 abandons", x.length(), 1);
        due("overlay() after them", x.overlay(), 2);
    }

    /** Sixteen clusters are enough for each way in which four images can say a word or nothing. */
    private static void theHighestThatSaysAWord() {
        says("Terms: the word of a cluster is that of the highest image that says a word for it, or 0");
        for (int zero = -1; zero < 4; zero++) {
            ImageChain x = new ImageChain();
            for (int i = 0; i < 4; i++) {
                for (int c = 0; c < 16; c++) {
                    if ((c >> i & 1) == 1) {
                        x.write(c, i == zero ? 0 : 10 + i);
                    }
                }
                x.overlay();
            }
            for (int c = 0; c < 16; c++) {
                int highest = 31 - Integer.numberOfLeadingZeros(c);
                int want = highest < 0 || highest == zero ? 0 : 10 + highest;
                due("image " + zero + " says 0, read(" + c + ")", x.read(c), want);
            }
        }
    }

    private static void atMostFourSnapshots() {
        says("Terms: snapshots of the top are numbered 0, 1, .., at most 4");
        for (int images = 1; images <= 4; images++) {
            ImageChain x = images(images);
            for (int s = 0; s < 4; s++) {
                due(images + " images, snapshot()", x.snapshot(), s);
            }
            due(images + " images, the fifth snapshot()", x.snapshot(), ImageChain.FULL);
            due(images + " images, snapshots()", x.snapshots(), 4);
        }
    }

    private static void aSnapshotIsACopy() {
        says("Terms: a snapshot is a copy of all that the top said when it was made");
        for (int number = 0; number < 4; number++) {
            ImageChain x = new ImageChain();
            x.fill(0, 15, 9);
            x.overlay();
            x.fill(0, 15, 8);
            for (int s = 0; s < number; s++) {
                x.snapshot();
            }
            x.write(0, MIN);
            x.write(7, 0);
            x.discard(8);
            x.write(15, MAX);
            x.snapshot();
            x.fill(0, 15, 6);
            x.revert(0);
            x.discard(0);
            due("snapshot " + number + ", the first cluster", x.peek(number, 0), MIN);
            due("snapshot " + number + ", a word of 0", x.peek(number, 7), 0);
            due("snapshot " + number + ", nothing said", x.peek(number, 8), 9);
            due("snapshot " + number + ", the last cluster", x.peek(number, 15), MAX);
            x.revert(number);
            due("snapshot " + number + " reverted to, said", saidBy(x), 0xFEFF);
        }
    }

    private static void changesAreMarked() {
        says("Terms: wherever a call changes the word of a cluster in the chain, it becomes marked");
        for (int c = 0; c < 16; c++) {
            for (String way : new String[] {"write", "fill", "discard", "abandon", "revert"}) {
                ImageChain x = new ImageChain();
                x.fill(0, 15, 5);
                x.overlay();
                x.write(c, 6);
                x.backup();
                changeBy(x, way, c);
                due(way + " on cluster " + c + ", marked()", x.marked(), 1);
                due(way + " on cluster " + c + ", the set of marks", marksOf(x), 1 << c);
            }
        }
    }

    private static void changeBy(ImageChain x, String way, int c) {
        switch (way) {
            case "write": x.write(c, 0); break;
            case "fill": x.fill(c, c, 0); break;
            case "discard": x.discard(c); break;
            case "abandon": x.abandon(); break;
            default:
                x.snapshot();
                x.write(c, 7);
                x.backup();
                x.revert(0);
        }
    }

    /** The top says here the words that the image below it says, so nothing below changes a word. */
    private static void theSameWordIsNotMarked() {
        says("Terms: a cluster becomes marked where its word changes to another one");
        for (int w : new int[] {0, 5, MIN}) {
            ImageChain x = new ImageChain();
            x.fill(0, 15, w);
            x.overlay();
            x.backup();
            due("the word below written", x.write(0, w), 0);
            due("the word below filled in", x.fill(0, 15, w), 0);
            due("its own word written", x.write(15, w), 0);
            x.snapshot();
            due("a word taken off", x.discard(15), 1);
            due("revert to the same words", x.revert(0), 0);
            x.forget(0);
            due("abandon to the same words", x.abandon(), 16);
            x.overlay();
            due("a word for pull", x.write(0, w), 0);
            due("pull", x.pull(), 1);
            x.overlay();
            due("a word for commit", x.write(15, w), 0);
            due("commit", x.commit(), 1);
            due("marked()", x.marked(), 0);
            due("the set of marks", marksOf(x), 0);
        }
    }

    private static void changedBackIsMarked() {
        says("Terms: a cluster that was changed and changed back stays marked");
        for (int c : EDGES) {
            ImageChain x = new ImageChain();
            x.write(c, 4);
            x.write(c, 0);
            x.discard(c);
            due("marked()", x.marked(), 1);
            due("behind()", x.behind(), 0);
            due("the set of marks", marksOf(x), 1 << c);
        }
    }

    // ---- Promise 1

    private static void aNewObject() {
        says("Promise 1: one image that says nothing, no snapshot, no cluster marked, a backup of 0s");
        ImageChain x = new ImageChain();
        for (int c = 0; c < 16; c++) {
            due("read(" + c + ")", x.read(c), 0);
            due("said(" + c + ")", x.said(c), false);
            due("saved(" + c + ")", x.saved(c), 0);
        }
        due("length()", x.length(), 1);
        due("snapshots()", x.snapshots(), 0);
        due("marked()", x.marked(), 0);
        due("behind()", x.behind(), 0);
        due("backup()", x.backup(), 0);
        due("digest()", x.digest(), 0);
        due("commit()", x.commit(), ImageChain.NONE);
        due("abandon()", x.abandon(), ImageChain.NONE);
        due("pull()", x.pull(), ImageChain.NONE);
        due("revert(0)", x.revert(0), ImageChain.NONE);
        due("forget(0)", x.forget(0), ImageChain.NONE);
        due("peek(0, 0)", x.peek(0, 0), 0);
        due("the set of marks", marksOf(x), 0);
    }

    // ---- Promise 2

    private static void writeOutOfRange() {
        says("Promise 2: BAD_ARG if c is not 0 to 15");
        for (int c : NO_CLUSTERS) {
            for (int w : new int[] {0, 1, MIN, MAX}) {
                due("write(" + c + ", " + w + ")", new ImageChain().write(c, w), ImageChain.BAD_ARG);
            }
        }
        for (int c : EDGES) {
            due("write(" + c + ", 1)", new ImageChain().write(c, 1), 1);
        }
    }

    private static void writeInTheTop() {
        says("Promise 2: the top says the word w for cluster c from now on");
        for (int images = 1; images <= 4; images++) {
            for (int c : EDGES) {
                for (int w : new int[] {0, 1, -1, MIN, MAX}) {
                    ImageChain x = images(images);
                    x.write(c, w);
                    String call = images + " images, write(" + c + ", " + w + ")";
                    due(call + ", read", x.read(c), w);
                    due(call + ", said by the top", saidBy(x), 1 << c);
                    x.abandon();
                    due(call + ", said below", saidBy(x), images == 1 ? 1 << c : 0);
                }
            }
        }
    }

    private static void writeAnswersTheChange() {
        says("Promise 2: 1 if this changed the word of the cluster in the chain, else 0");
        for (int images = 1; images <= 4; images++) {
            for (int c : EDGES) {
                ImageChain x = images(images);
                String call = images + " images, cluster " + c + ", write ";
                due(call + "0 over nothing", x.write(c, 0), 0);
                due(call + "another word", x.write(c, MAX), 1);
                due(call + "the word it had", x.write(c, MAX), 0);
                due(call + "the word's negative neighbour", x.write(c, MIN), 1);
                due(call + "0 over a word", x.write(c, 0), 1);
                due(call + "0 over 0", x.write(c, 0), 0);
            }
        }
    }

    private static void writeOverAWordBelow() {
        says("Promise 2: 1 if this changed the word of the cluster in the chain, else 0");
        for (int images = 2; images <= 4; images++) {
            for (int c : EDGES) {
                ImageChain x = full(images, 0);
                x.discard(c);
                String call = images + " images, cluster " + c + ", write ";
                due(call + "the word from below", x.write(c, images - 1), 0);
                due(call + "the word from below, said", x.said(c), true);
                due(call + "0 over a word below", x.write(c, 0), 1);
                due(call + "the word from below over 0", x.write(c, images - 1), 1);
            }
        }
    }

    // ---- Promise 3

    private static void fillOutOfRange() {
        says("Promise 3: BAD_ARG if c or d is not 0 to 15");
        for (int outside : NO_CLUSTERS) {
            for (int inside : new int[] {0, 1, 14, 15}) {
                fillRefused(outside, inside);
                fillRefused(inside, outside);
            }
            for (int other : NO_CLUSTERS) {
                fillRefused(outside, other);
            }
        }
    }

    private static void fillFromAboveToBelow() {
        says("Promise 3: BAD_ARG if c > d");
        for (int c = 0; c < 16; c++) {
            for (int d = 0; d < c; d++) {
                fillRefused(c, d);
            }
        }
    }

    private static void fillRefused(int c, int d) {
        ImageChain x = new ImageChain();
        due("fill(" + c + ", " + d + ", 1)", x.fill(c, d, 1), ImageChain.BAD_ARG);
        due("fill(" + c + ", " + d + ", 1), said", saidBy(x), 0);
    }

    private static void fillFromCToD() {
        says("Promise 3: the top says the word w for all clusters from c to d");
        for (int c = 0; c < 16; c++) {
            for (int d = c; d < 16; d++) {
                int set = (1 << d + 1) - (1 << c);
                ImageChain x = new ImageChain();
                String call = "fill(" + c + ", " + d + ", 1)";
                due(call, x.fill(c, d, 1), bits(set));
                due(call + ", said", saidBy(x), set);
                due(call + ", marked()", x.marked(), bits(set));
                due(call + ", the set of marks", marksOf(x), set);
            }
        }
        for (int w : WORDS) {
            ImageChain x = images(4);
            due("fill(0, 15, " + w + ")", x.fill(0, 15, w), 16);
            allRead("fill(0, 15, " + w + ")", x, w);
        }
    }

    private static void fillAnswersTheChanges() {
        says("Promise 3: how many clusters of the chain got another word");
        ImageChain x = new ImageChain();
        due("0 over nothing", x.fill(0, 15, 0), 0);
        due("0 over nothing, said", saidBy(x), 0xFFFF);
        due("another word", x.fill(0, 15, MIN), 16);
        due("the same word", x.fill(0, 15, MIN), 0);
        x.write(0, 1);
        x.write(15, 1);
        due("all but the first and the last change", x.fill(0, 15, 1), 14);
        x.write(0, 2);
        x.write(15, 2);
        due("only the first and the last change", x.fill(0, 15, 1), 2);
        x.overlay();
        due("the words from below", x.fill(0, 15, 1), 0);
        due("0 over words below", x.fill(0, 15, 0), 16);
    }

    // ---- Promise 4

    private static void discardOutOfRange() {
        says("Promise 4: BAD_ARG if c is not 0 to 15");
        for (int c : NO_CLUSTERS) {
            due("new, discard(" + c + ")", new ImageChain().discard(c), ImageChain.BAD_ARG);
            due("all said, discard(" + c + ")", full(4, 0).discard(c), ImageChain.BAD_ARG);
        }
    }

    private static void discardAnswers() {
        says("Promise 4: 1 if it said a word before, else 0");
        for (int images = 1; images <= 4; images++) {
            for (int c : EDGES) {
                ImageChain x = images(images);
                String call = images + " images, discard(" + c + ")";
                due(call + ", nothing said", x.discard(c), 0);
                x.write(c, 0);
                due(call + ", 0 said", x.discard(c), 1);
                x.write(c, MIN);
                due(call + ", a word said", x.discard(c), 1);
                due(call + ", said no longer", x.discard(c), 0);
            }
        }
        for (int images = 1; images <= 3; images++) {
            ImageChain x = full(images, 0);
            x.overlay();
            for (int c : EDGES) {
                due("said by " + images + " images below alone, discard(" + c + ")", x.discard(c), 0);
                due("said by " + images + " images below alone, read(" + c + ")", x.read(c), images);
            }
        }
    }

    private static void discardInTheTop() {
        says("Promise 4: the top says nothing for cluster c from now on");
        for (int images = 1; images <= 4; images++) {
            for (int c : EDGES) {
                ImageChain x = full(images, 0);
                x.backup();
                x.discard(c);
                String call = images + " images, discard(" + c + ")";
                due(call + ", said", saidBy(x), 0xFFFF - (1 << c));
                due(call + ", the word from below", x.read(c), images - 1);
                due(call + ", the others stay", x.read(15 - c), images);
                due(call + ", the set of marks", marksOf(x), 1 << c);
            }
        }
    }

    // ---- Promises 5, 6, 19: what is asked of one cluster

    private static void readOutOfRange() {
        says("Promise 5: 0 if c is not 0 to 15");
        for (int images = 1; images <= 4; images++) {
            for (int c : NO_CLUSTERS) {
                due(images + " images, read(" + c + ")", full(images, 0).read(c), 0);
            }
            for (int c : EDGES) {
                due(images + " images, read(" + c + ")", full(images, 0).read(c), images);
            }
        }
    }

    private static void saidOutOfRange() {
        says("Promise 6: false if c is not 0 to 15");
        for (int images = 1; images <= 4; images++) {
            for (int c : NO_CLUSTERS) {
                due(images + " images, said(" + c + ")", full(images, 0).said(c), false);
            }
        }
    }

    private static void saidByTheTop() {
        says("Promise 6: whether the top says a word for cluster c");
        for (int c : EDGES) {
            ImageChain x = new ImageChain();
            due("nothing, said(" + c + ")", x.said(c), false);
            x.write(c, 0);
            due("a word of 0, said(" + c + ")", x.said(c), true);
            x.overlay();
            due("by the image below alone, said(" + c + ")", x.said(c), false);
            x.write(c, MIN);
            due("the least word, said(" + c + ")", x.said(c), true);
        }
    }

    private static void savedOutOfRange() {
        says("Promise 19: 0 if c is not 0 to 15");
        ImageChain x = full(1, 0);
        x.backup();
        for (int c : NO_CLUSTERS) {
            due("saved(" + c + ")", x.saved(c), 0);
        }
        for (int c : EDGES) {
            due("saved(" + c + ")", x.saved(c), 1);
        }
    }

    private static void savedIsTheBackupsWord() {
        says("Promise 19: the word of cluster c in the backup");
        for (int c : EDGES) {
            for (int w : WORDS) {
                ImageChain x = new ImageChain();
                x.write(c, w);
                due("not backed up, saved(" + c + ")", x.saved(c), 0);
                x.backup();
                x.write(c, 0);
                due("changed since, saved(" + c + ")", x.saved(c), w);
                due("the other edge, saved(" + (15 - c) + ")", x.saved(15 - c), 0);
            }
        }
    }

    // ---- Promises 7 and 8

    private static void lengthFromOneToFour() {
        says("Promise 7: the number of images of the chain");
        for (int images = 1; images <= 4; images++) {
            due("length()", images(images).length(), images);
            due("with 4 snapshots, length()", full(images, 4).length(), images);
        }
    }

    private static void overlayAtFourImages() {
        says("Promise 8: 4 images answers FULL");
        ImageChain x = full(4, 0);
        due("overlay()", x.overlay(), ImageChain.FULL);
        due("overlay() again", x.overlay(), ImageChain.FULL);
        x.abandon();
        due("overlay() when there is room", x.overlay(), 4);
    }

    private static void overlayWithSnapshots() {
        says("Promise 8: there is a snapshot answers NONE");
        for (int images = 1; images <= 3; images++) {
            for (int snapshots = 1; snapshots <= 4; snapshots++) {
                ImageChain x = full(images, snapshots);
                String when = images + " images, " + snapshots + " snapshots, ";
                due(when + "overlay()", x.overlay(), ImageChain.NONE);
                forgetAll(x);
                due(when + "forgotten, overlay()", x.overlay(), images + 1);
            }
        }
    }

    private static void overlayTestsFullFirst() {
        says("Promise 8: tested in this order: FULL, then NONE");
        for (int snapshots = 1; snapshots <= 4; snapshots++) {
            due("4 images, " + snapshots + " snapshots, overlay()", full(4, snapshots).overlay(), ImageChain.FULL);
        }
    }

    private static void overlaySaysNothing() {
        says("Promise 8: a new image that says nothing is put on top of the chain");
        for (int images = 1; images <= 3; images++) {
            ImageChain x = full(images, 0);
            x.backup();
            due("overlay()", x.overlay(), images + 1);
            due("said", saidBy(x), 0);
            allRead("overlay()", x, images);
            due("marked()", x.marked(), 0);
        }
    }

    // ---- Promises 9 and 10

    private static void commitOneImage() {
        says("Promise 9: NONE if there is one image only");
        due("new, commit()", new ImageChain().commit(), ImageChain.NONE);
        for (int snapshots = 0; snapshots <= 4; snapshots++) {
            due(snapshots + " snapshots, commit()", full(1, snapshots).commit(), ImageChain.NONE);
        }
    }

    private static void abandonOneImage() {
        says("Promise 10: NONE if there is one image only");
        due("new, abandon()", new ImageChain().abandon(), ImageChain.NONE);
        for (int snapshots = 0; snapshots <= 4; snapshots++) {
            due(snapshots + " snapshots, abandon()", full(1, snapshots).abandon(), ImageChain.NONE);
        }
    }

    private static void commitWithSnapshots() {
        says("Promise 9: NONE if there is a snapshot");
        for (int images = 2; images <= 4; images++) {
            for (int snapshots = 1; snapshots <= 4; snapshots++) {
                ImageChain x = full(images, snapshots);
                String when = images + " images, " + snapshots + " snapshots, ";
                due(when + "commit()", x.commit(), ImageChain.NONE);
                forgetAll(x);
                due(when + "forgotten, commit()", x.commit(), 16);
            }
        }
    }

    private static void abandonWithSnapshots() {
        says("Promise 10: NONE if there is a snapshot");
        for (int images = 2; images <= 4; images++) {
            for (int snapshots = 1; snapshots <= 4; snapshots++) {
                ImageChain x = full(images, snapshots);
                String when = images + " images, " + snapshots + " snapshots, ";
                due(when + "abandon()", x.abandon(), ImageChain.NONE);
                forgetAll(x);
                due(when + "forgotten, abandon()", x.abandon(), 16);
            }
        }
    }

    private static void commitAnswersTheWords() {
        says("Promise 9: how many words the top said");
        due("none", images(2).commit(), 0);
        for (int c : EDGES) {
            ImageChain x = images(2);
            x.write(c, 0);
            due("a word of 0 at " + c, x.commit(), 1);
        }
        ImageChain y = full(4, 0);
        for (int images = 3; images >= 1; images--) {
            due("every cluster", y.commit(), 16);
            due("length()", y.length(), images);
            allRead("commit()", y, 4);
        }
        due("the last image", y.commit(), ImageChain.NONE);
    }

    private static void commitMovesWordsDown() {
        says("Promise 9: every word that the top says is from now on said by the image below it");
        for (int images = 2; images <= 4; images++) {
            for (int c : EDGES) {
                for (int w : new int[] {0, 1, MIN, MAX}) {
                    ImageChain x = full(images, 0);
                    for (int i = 0; i < 16; i++) {
                        x.discard(i);
                    }
                    x.write(c, w);
                    x.backup();
                    String call = images + " images, " + w + " at " + c + ", commit()";
                    due(call, x.commit(), 1);
                    due(call + ", read", x.read(c), w);
                    due(call + ", said", saidBy(x), 0xFFFF);
                    due(call + ", nothing leaves the word", x.read(15 - c), images - 1);
                    due(call + ", marked()", x.marked(), 0);
                    x.discard(c);
                    due(call + ", the image next below", x.read(c), images - 2);
                }
            }
        }
    }

    private static void abandonAnswersTheWords() {
        says("Promise 10: how many words it said");
        due("none", images(2).abandon(), 0);
        for (int c : EDGES) {
            ImageChain x = images(2);
            x.write(c, 0);
            due("a word of 0 at " + c, x.abandon(), 1);
            due("a word of 0 at " + c + ", marked()", x.marked(), 0);
        }
        ImageChain y = full(4, 0);
        for (int images = 3; images >= 1; images--) {
            y.backup();
            due("every cluster", y.abandon(), 16);
            due("length()", y.length(), images);
            due("marked()", y.marked(), 16);
            allRead("abandon()", y, images);
        }
        due("the last image", y.abandon(), ImageChain.NONE);
    }

    private static void abandonTakesWhatItSaid() {
        says("Promise 10: the top is taken off the chain, with what it said");
        for (int images = 2; images <= 4; images++) {
            ImageChain x = full(images, 0);
            x.fill(0, 7, images - 1);
            x.discard(8);
            x.backup();
            due(images + " images, abandon()", x.abandon(), 15);
            due(images + " images, said below", saidBy(x), 0xFFFF);
            allRead(images + " images, abandon()", x, images - 1);
            due(images + " images, only other words are marked", marksOf(x), 0xFE00);
            x.overlay();
            due(images + " images, a new top", saidBy(x), 0);
        }
    }

    // ---- Promise 11

    private static void pullOneImage() {
        says("Promise 11: NONE if there is one image only");
        due("new, pull()", new ImageChain().pull(), ImageChain.NONE);
        for (int snapshots = 0; snapshots <= 4; snapshots++) {
            due(snapshots + " snapshots, pull()", full(1, snapshots).pull(), ImageChain.NONE);
        }
    }

    private static void pullWithSnapshots() {
        says("Promise 11: a snapshot does not refuse it, and stays what it was");
        for (int images = 2; images <= 4; images++) {
            for (int snapshots = 0; snapshots <= 4; snapshots++) {
                ImageChain x = full(images, 0);
                x.discard(0);
                x.write(15, 0);
                for (int s = 0; s < snapshots; s++) {
                    x.snapshot();
                }
                String when = images + " images, " + snapshots + " snapshots, ";
                due(when + "pull()", x.pull(), images - 1);
                due(when + "read(0), pulled up", x.read(0), images - 1);
                due(when + "snapshots()", x.snapshots(), snapshots);
                for (int s = 0; s < snapshots; s++) {
                    due(when + "peek(" + s + ", 0), two below", x.peek(s, 0), images - 2);
                    due(when + "peek(" + s + ", 15)", x.peek(s, 15), 0);
                }
            }
        }
    }

    private static void pullFillsWhatIsNotSaid() {
        says("Promise 11: the top says, for every cluster for which it says nothing, what is said below");
        for (int c = 0; c < 16; c++) {
            ImageChain x = new ImageChain();
            x.overlay();
            x.write(c, MIN);
            x.write(c ^ 1, 0);
            x.overlay();
            x.write(c ^ 2, 0);
            x.backup();
            due("cluster " + c + ", pull()", x.pull(), 2);
            due("cluster " + c + ", said", saidBy(x), 1 << c | 1 << (c ^ 1) | 1 << (c ^ 2));
            due("cluster " + c + ", read", x.read(c), MIN);
            due("cluster " + c + ", marked()", x.marked(), 0);
            ImageChain y = full(3, 0);
            y.write(c, 0);
            y.discard(c ^ 1);
            y.pull();
            due("cluster " + c + ", the top's 0 stays", y.read(c), 0);
            due("cluster " + c + ", a word from below", y.read(c ^ 1), 2);
            y.discard(c);
            due("cluster " + c + ", the image below is out", y.read(c), 1);
        }
    }

    private static void pullDownToOne() {
        says("Promise 11: otherwise the number of images");
        ImageChain x = full(4, 0);
        for (int images = 3; images >= 1; images--) {
            due("pull()", x.pull(), images);
            due("length()", x.length(), images);
            allRead("pull()", x, 4);
        }
        due("pull() at one image", x.pull(), ImageChain.NONE);
        due("overlay() after it", x.overlay(), 2);
    }

    // ---- Promises 12 to 16

    private static void snapshotWhenFull() {
        says("Promise 12: FULL if there are 4");
        ImageChain x = full(1, 3);
        due("the fourth", x.snapshot(), 3);
        due("the fifth", x.snapshot(), ImageChain.FULL);
        due("the fifth again", x.snapshot(), ImageChain.FULL);
        for (int s = 0; s < 4; s++) {
            x.forget(s);
            due("one forgotten, a new one", x.snapshot(), 3);
            due("full again", x.snapshot(), ImageChain.FULL);
        }
    }

    private static void snapshotOfAllAndOfNothing() {
        says("Promise 12: makes a snapshot, of a top that says nothing or all");
        ImageChain x = full(1, 0);
        x.overlay();
        due("nothing said, snapshot()", x.snapshot(), 0);
        x.fill(0, 15, MIN);
        due("all said, snapshot()", x.snapshot(), 1);
        due("snapshots()", x.snapshots(), 2);
        due("revert to nothing", x.revert(0), 16);
        due("revert to nothing, said", saidBy(x), 0);
        due("revert to all", x.revert(1), 16);
        due("revert to all, said", saidBy(x), 0xFFFF);
        allRead("revert to all", x, MIN);
    }

    private static void revertNoSuchSnapshot() {
        says("Promise 13: NONE if there is no snapshot s");
        for (int count = 0; count <= 4; count++) {
            for (int s : noSnapshots(count)) {
                due(count + " snapshots, revert(" + s + ")", full(2, count).revert(s), ImageChain.NONE);
            }
            for (int s = 0; s < count; s++) {
                due(count + " snapshots, revert(" + s + ")", full(2, count).revert(s), 0);
            }
        }
    }

    private static void forgetNoSuchSnapshot() {
        says("Promise 14: NONE if there is no snapshot s");
        for (int count = 0; count <= 4; count++) {
            for (int s : noSnapshots(count)) {
                due(count + " snapshots, forget(" + s + ")", full(2, count).forget(s), ImageChain.NONE);
            }
            for (int s = 0; s < count; s++) {
                due(count + " snapshots, forget(" + s + ")", full(2, count).forget(s), count - 1);
            }
        }
    }

    private static void revertAnswersTheChanges() {
        says("Promise 13: how many clusters of the chain got another word");
        ImageChain x = full(4, 1);
        due("to what it says", x.revert(0), 0);
        x.fill(0, 15, MAX);
        due("every cluster", x.revert(0), 16);
        for (int c : EDGES) {
            x.discard(c);
            x.backup();
            due("cluster " + c, x.revert(0), 1);
            due("cluster " + c + ", marked()", x.marked(), 1);
            due("cluster " + c + ", said", saidBy(x), 0xFFFF);
        }
        ImageChain y = full(3, 0);
        y.overlay();
        y.snapshot();
        y.fill(0, 15, 3);
        y.backup();
        due("to nothing over the same words", y.revert(0), 0);
        due("to nothing over the same words, marked()", y.marked(), 0);
        due("to nothing over the same words, said", saidBy(y), 0);
        y.fill(0, 15, 0);
        due("from 0s to nothing", y.revert(0), 16);
        allRead("from 0s to nothing", y, 3);
    }

    private static void revertToWordsOfZero() {
        says("Promise 13: the top says from now on exactly what snapshot s says, a 0 too");
        for (int number = 0; number < 4; number++) {
            ImageChain x = full(2, number);
            x.write(0, 0);
            x.discard(15);
            x.snapshot();
            x.discard(0);
            x.write(15, 0);
            due("snapshot " + number + ", revert", x.revert(number), 2);
            due("snapshot " + number + ", said", saidBy(x), 0x7FFF);
            due("snapshot " + number + ", read(0)", x.read(0), 0);
            due("snapshot " + number + ", read(15)", x.read(15), 1);
            due("snapshot " + number + ", snapshots()", x.snapshots(), number + 1);
        }
    }

    private static void forgetMovesNumbers() {
        says("Promise 14: those with higher numbers get numbers less by one");
        for (int count = 1; count <= 4; count++) {
            for (int gone = 0; gone < count; gone++) {
                ImageChain x = new ImageChain();
                for (int s = 0; s < count; s++) {
                    x.write(0, 10 + s);
                    x.write(15, 20 + s);
                    x.write(1 + s, 30 + s);
                    x.snapshot();
                }
                String call = count + " snapshots, forget(" + gone + ")";
                due(call, x.forget(gone), count - 1);
                for (int s = 0; s < count - 1; s++) {
                    int old = s < gone ? s : s + 1;
                    due(call + ", peek(" + s + ", 0)", x.peek(s, 0), 10 + old);
                    due(call + ", peek(" + s + ", 15)", x.peek(s, 15), 20 + old);
                    x.revert(s);
                    due(call + ", revert(" + s + "), said", saidBy(x), 0x8001 | (1 << old + 2) - 2);
                }
                due(call + ", the last number is free", x.peek(count - 1, 0), 0);
                due(call + ", snapshot()", x.snapshot(), count - 1);
            }
        }
    }

    private static void forgetDownToNone() {
        says("Promise 14: otherwise the number of snapshots left");
        for (int end = 0; end <= 1; end++) {
            ImageChain x = full(2, 4);
            for (int left = 3; left >= 0; left--) {
                due("forget at end " + end, x.forget(end == 0 ? 0 : left), left);
                due("snapshots()", x.snapshots(), left);
            }
            due("none left", x.forget(0), ImageChain.NONE);
            allRead("forgotten", x, 2);
        }
    }

    private static void snapshotsFromNoneToFour() {
        says("Promise 15: the number of snapshots");
        for (int images = 1; images <= 4; images++) {
            for (int count = 0; count <= 4; count++) {
                due(images + " images, snapshots()", full(images, count).snapshots(), count);
            }
        }
    }

    private static void peekOutOfRange() {
        says("Promise 16: 0 if there is no snapshot s or c is not 0 to 15");
        for (int count = 0; count <= 4; count++) {
            ImageChain x = full(2, count);
            for (int s : noSnapshots(count)) {
                for (int c : new int[] {0, 15, -1, 16, MIN, MAX}) {
                    due(count + " snapshots, peek(" + s + ", " + c + ")", x.peek(s, c), 0);
                }
            }
            for (int s = 0; s < count; s++) {
                for (int c : NO_CLUSTERS) {
                    due(count + " snapshots, peek(" + s + ", " + c + ")", x.peek(s, c), 0);
                }
                due(count + " snapshots, peek(" + s + ", 0)", x.peek(s, 0), 2);
                due(count + " snapshots, peek(" + s + ", 15)", x.peek(s, 15), 2);
            }
        }
    }

    private static void peekThroughNothing() {
        says("Promise 16: the word that cluster c would have in the chain after revert(s)");
        for (int images = 1; images <= 4; images++) {
            for (int c : EDGES) {
                ImageChain x = full(images, 0);
                x.discard(c);
                x.snapshot();
                x.write(c, 0);
                x.snapshot();
                x.write(c, MAX);
                x.snapshot();
                x.write(c, 77);
                String when = images + " images, cluster " + c + ", ";
                due(when + "nothing said", x.peek(0, c), images - 1);
                due(when + "0 said", x.peek(1, c), 0);
                due(when + "a word said", x.peek(2, c), MAX);
                due(when + "the top is not changed", x.read(c), 77);
            }
        }
    }

    // ---- Promises 17, 18, 20

    private static void markedFromNoneToAll() {
        says("Promise 17: how many clusters are marked");
        ImageChain x = new ImageChain();
        for (int c = 0; c < 16; c++) {
            due("before cluster " + c, x.marked(), c);
            x.write(c, 1);
            x.write(c, 2);
        }
        due("all", x.marked(), 16);
        x.fill(0, 15, 3);
        due("all again", x.marked(), 16);
        x.backup();
        due("after backup", x.marked(), 0);
    }

    private static void backupOfNoneAndOfAll() {
        says("Promise 18: answers how many were marked; then no cluster is marked");
        for (int images = 1; images <= 4; images++) {
            ImageChain x = full(images, 0);
            due(images + " images, all", x.backup(), 16);
            due(images + " images, none", x.backup(), 0);
            due(images + " images, marked()", x.marked(), 0);
            due(images + " images, saved(0)", x.saved(0), images);
            due(images + " images, saved(15)", x.saved(15), images);
            due(images + " images, the set of marks", marksOf(x), 0);
        }
        due("new", new ImageChain().backup(), 0);
    }

    private static void backupWritesMarkedWords() {
        says("Promise 18: every marked cluster's word in the chain is written into the backup");
        for (int c = 0; c < 16; c++) {
            for (int w : new int[] {0, -1, MIN, MAX}) {
                ImageChain x = full(3, 0);
                x.backup();
                x.overlay();
                x.write(c, w);
                due("cluster " + c + ", one marked", x.backup(), 1);
                for (int other = 0; other < 16; other++) {
                    due("cluster " + c + ", saved(" + other + ")", x.saved(other), other == c ? w : 3);
                }
                x.discard(c);
                due("cluster " + c + ", nothing said", x.backup(), 1);
                due("cluster " + c + ", the word from below", x.saved(c), 3);
            }
        }
        ImageChain y = new ImageChain();
        y.write(0, 4);
        y.write(0, 0);
        due("marked with the word it had", y.backup(), 1);
        due("marked with the word it had, saved(0)", y.saved(0), 0);
    }

    private static void behindFromNoneToAll() {
        says("Promise 20: how many clusters have another word in the chain than in the backup");
        ImageChain x = new ImageChain();
        for (int c = 0; c < 16; c++) {
            due("before cluster " + c, x.behind(), c);
            x.write(c, c % 2 == 0 ? MIN : MAX);
        }
        due("all", x.behind(), 16);
        due("asking leaves the marks", x.marked(), 16);
        for (int c = 0; c < 16; c++) {
            x.write(c, 0);
            due("back at cluster " + c, x.behind(), 15 - c);
        }
        x.fill(0, 15, 1);
        x.backup();
        due("after backup", x.behind(), 0);
        x.overlay();
        x.fill(0, 15, 0);
        due("0s over words", x.behind(), 16);
        x.abandon();
        due("the same words again", x.behind(), 0);
        due("the same words again, marked()", x.marked(), 16);
    }

    // ---- Promises 21 and 22

    private static void checkAnswersZero() {
        says("Promise 21: answers 0");
        due("new", new ImageChain().check(), 0);
        for (int images = 1; images <= 4; images++) {
            for (int snapshots = 0; snapshots <= 4; snapshots++) {
                ImageChain x = full(images, snapshots);
                due(images + " images, " + snapshots + " snapshots, check()", x.check(), 0);
                x.pull();
                x.forget(0);
                due(images + " images, " + snapshots + " snapshots, check() after a pull and a forget", x.check(), 0);
            }
        }
    }

    private static void digestWraps() {
        says("Promise 22: the sum, wrapping");
        due("new", new ImageChain().digest(), 0);
        ImageChain x = new ImageChain();
        x.write(0, MAX);
        due("just below the wrap", x.digest(), MAX);
        x.write(1, 1);
        due("two above the greatest int", x.digest(), MIN + 1);
        x.write(0, MIN);
        x.write(1, -1);
        due("two below the least int", x.digest(), MAX - 1);
        x.fill(0, 15, MAX);
        due("the greatest words", x.digest(), -136);
        x.fill(0, 15, MIN);
        due("the least words", x.digest(), 0);
        x.fill(0, 15, -1);
        due("words of -1", x.digest(), -136);
        x.fill(0, 15, 0);
        x.write(15, 0x08000001);
        due("16 times a word, just above the wrap", x.digest(), MIN + 16);
        x.write(15, 0x10000000);
        due("16 times a word, wrapped to 0", x.digest(), 0);
    }

    private static void digestOfEachCluster() {
        says("Promise 22: over all clusters c of (c + 1) times the word in the chain");
        for (int images = 1; images <= 4; images++) {
            for (int c = 0; c < 16; c++) {
                ImageChain x = full(images, 0);
                due(images + " images, all", x.digest(), 136 * images);
                x.write(c, 0);
                due(images + " images, 0 at " + c, x.digest(), 136 * images - (c + 1) * images);
                x.discard(c);
                due(images + " images, nothing at " + c, x.digest(), 136 * images - (c + 1));
            }
        }
    }

    private static void callsAndTerms() {
        the512thCall();
        the512thCallOnLayers();
        the512thCallAfterRefusals();
        sixteenClusters();
        zeroIsAWord();
        oneToFourImages();
        theHighestThatSaysAWord();
        atMostFourSnapshots();
        aSnapshotIsACopy();
        changesAreMarked();
        theSameWordIsNotMarked();
        changedBackIsMarked();
    }

    private static void promises1To8() {
        aNewObject();
        writeOutOfRange();
        writeInTheTop();
        writeAnswersTheChange();
        writeOverAWordBelow();
        fillOutOfRange();
        fillFromAboveToBelow();
        fillFromCToD();
        fillAnswersTheChanges();
        discardOutOfRange();
        discardAnswers();
        discardInTheTop();
        readOutOfRange();
        saidOutOfRange();
        saidByTheTop();
        lengthFromOneToFour();
        overlayAtFourImages();
        overlayWithSnapshots();
        overlayTestsFullFirst();
        overlaySaysNothing();
    }

    private static void promises9To16() {
        commitOneImage();
        commitWithSnapshots();
        commitAnswersTheWords();
        commitMovesWordsDown();
        abandonOneImage();
        abandonWithSnapshots();
        abandonAnswersTheWords();
        abandonTakesWhatItSaid();
        pullOneImage();
        pullWithSnapshots();
        pullFillsWhatIsNotSaid();
        pullDownToOne();
        snapshotWhenFull();
        snapshotOfAllAndOfNothing();
        revertNoSuchSnapshot();
        revertAnswersTheChanges();
        revertToWordsOfZero();
        forgetNoSuchSnapshot();
        forgetMovesNumbers();
        forgetDownToNone();
        snapshotsFromNoneToFour();
        peekOutOfRange();
        peekThroughNothing();
    }

    private static void promises17To22() {
        markedFromNoneToAll();
        backupOfNoneAndOfAll();
        backupWritesMarkedWords();
        savedOutOfRange();
        savedIsTheBackupsWord();
        behindFromNoneToAll();
        checkAnswersZero();
        digestWraps();
        digestOfEachCluster();
    }

    public static void main(String[] args) {
        callsAndTerms();
        promises1To8();
        promises9To16();
        promises17To22();
        System.out.println(wrong == 0 ? "all answers are as due" : wrong + " answers are not as due");
        if (wrong != 0) {
            System.exit(1);
        }
    }
}
