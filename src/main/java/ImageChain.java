/**
 * A chain of disk images over each other, snapshots within the top one, a note of what changed
 * since the last backup, and the backup.
 */
public final class ImageChain {
    public static final int BAD_ARG = -1;
    public static final int FULL = -2;
    public static final int NONE = -4;

    private static final int CLUSTERS = 16;
    private static final int MOST_IMAGES = 4;
    private static final int MOST_SNAPSHOTS = 4;
    private static final int IMAGE_CELLS = 64;
    private static final int SNAPSHOT_CELLS = 64;

    // Image i (0 is the lowest) holds cluster c in cell i * CLUSTERS + c, and so does snapshot i.
    // A word of 0 differs from nothing, so whether a word is said is kept beside the word.
    // Images above the top always say nothing: a new overlay needs no clearing.
    private final boolean[] imageSays = new boolean[IMAGE_CELLS];
    private final int[] imageWords = new int[IMAGE_CELLS];
    private final boolean[] snapshotSays = new boolean[SNAPSHOT_CELLS];
    private final int[] snapshotWords = new int[SNAPSHOT_CELLS];
    private final boolean[] marks = new boolean[CLUSTERS];
    private final int[] savedWords = new int[CLUSTERS];
    private int imageCount;
    private int snapshotCount;

    public ImageChain() {
        imageCount = 1;
        snapshotCount = 0;
    }

    public int write(int c, int w) {
        if (!isCluster(c)) {
            return BAD_ARG;
        }
        return putInTop(c, true, w);
    }

    public int fill(int c, int d, int w) {
        if (!isCluster(c) || !isCluster(d) || c > d) {
            return BAD_ARG;
        }
        int changed = 0;
        for (int i = c; i <= d; i++) {
            changed += putInTop(i, true, w);
        }
        return changed;
    }

    public int discard(int c) {
        if (!isCluster(c)) {
            return BAD_ARG;
        }
        return clearInTop(c);
    }

    public int read(int c) {
        if (!isCluster(c)) {
            return 0;
        }
        return wordInLowest(imageCount, c);
    }

    public boolean said(int c) {
        return isCluster(c) && imageSays[topCell(c)];
    }

    public int length() {
        return imageCount;
    }

    public int overlay() {
        if (imageCount >= MOST_IMAGES) {
            return FULL;
        }
        if (snapshotCount > 0) {
            return NONE;
        }
        imageCount++;
        return imageCount;
    }

    public int commit() {
        if (imageCount <= 1 || snapshotCount > 0) {
            return NONE;
        }
        return mergeTopDown();
    }

    public int abandon() {
        if (imageCount <= 1 || snapshotCount > 0) {
            return NONE;
        }
        int words = 0;
        for (int c = 0; c < CLUSTERS; c++) {
            words += clearInTop(c);
        }
        imageCount--;
        return words;
    }

    public int pull() {
        if (imageCount <= 1) {
            return NONE;
        }
        // The top over the image below it is the same image whichever of the two is said to stay.
        mergeTopDown();
        return imageCount;
    }

    public int snapshot() {
        if (snapshotCount >= MOST_SNAPSHOTS) {
            return FULL;
        }
        int number = snapshotCount;
        for (int c = 0; c < CLUSTERS; c++) {
            int from = topCell(c);
            int to = number * CLUSTERS + c;
            snapshotSays[to] = imageSays[from];
            snapshotWords[to] = imageWords[from];
        }
        snapshotCount++;
        return number;
    }

    public int revert(int s) {
        if (!isSnapshot(s)) {
            return NONE;
        }
        int changed = 0;
        for (int c = 0; c < CLUSTERS; c++) {
            int from = s * CLUSTERS + c;
            changed += putInTop(c, snapshotSays[from], snapshotWords[from]);
        }
        return changed;
    }

    public int forget(int s) {
        if (!isSnapshot(s)) {
            return NONE;
        }
        snapshotCount--;
        for (int to = s * CLUSTERS; to < snapshotCount * CLUSTERS; to++) {
            int from = to + CLUSTERS;
            snapshotSays[to] = snapshotSays[from];
            snapshotWords[to] = snapshotWords[from];
        }
        return snapshotCount;
    }

    public int snapshots() {
        return snapshotCount;
    }

    public int peek(int s, int c) {
        if (!isSnapshot(s) || !isCluster(c)) {
            return 0;
        }
        int cell = s * CLUSTERS + c;
        if (snapshotSays[cell]) {
            return snapshotWords[cell];
        }
        return wordInLowest(imageCount - 1, c);
    }

    public int marked() {
        int count = 0;
        for (int c = 0; c < CLUSTERS; c++) {
            if (marks[c]) {
                count++;
            }
        }
        return count;
    }

    public int backup() {
        int count = 0;
        for (int c = 0; c < CLUSTERS; c++) {
            if (marks[c]) {
                savedWords[c] = wordInLowest(imageCount, c);
                marks[c] = false;
                count++;
            }
        }
        return count;
    }

    public int saved(int c) {
        if (!isCluster(c)) {
            return 0;
        }
        return savedWords[c];
    }

    public int behind() {
        int count = 0;
        for (int c = 0; c < CLUSTERS; c++) {
            if (wordInLowest(imageCount, c) != savedWords[c]) {
                count++;
            }
        }
        return count;
    }

    public int check() {
        // Every image and snapshot has cells of its own, so no part has uses that could be miscounted.
        return 0;
    }

    public int digest() {
        int sum = 0;
        for (int c = 0; c < CLUSTERS; c++) {
            sum += (c + 1) * wordInLowest(imageCount, c);
        }
        return sum;
    }

    private static boolean isCluster(int c) {
        return c >= 0 && c < CLUSTERS;
    }

    private boolean isSnapshot(int s) {
        return s >= 0 && s < snapshotCount;
    }

    private int topCell(int c) {
        return (imageCount - 1) * CLUSTERS + c;
    }

    /** The word that cluster c has in the chain's lowest images, as many as told. */
    private int wordInLowest(int images, int c) {
        for (int i = images - 1; i >= 0; i--) {
            int cell = i * CLUSTERS + c;
            if (imageSays[cell]) {
                return imageWords[cell];
            }
        }
        return 0;
    }

    /** Every change of a word in the chain goes through here, so that none is left unmarked. */
    private int putInTop(int c, boolean says, int w) {
        int before = wordInLowest(imageCount, c);
        int cell = topCell(c);
        imageSays[cell] = says;
        imageWords[cell] = w;
        int after = wordInLowest(imageCount, c);
        if (before == after) {
            return 0;
        }
        marks[c] = true;
        return 1;
    }

    /** Answers how many words the top lost, 1 or 0. */
    private int clearInTop(int c) {
        int words = imageSays[topCell(c)] ? 1 : 0;
        putInTop(c, false, 0);
        return words;
    }

    /** Answers how many words the top said; the chain's words stay, so nothing becomes marked. */
    private int mergeTopDown() {
        int words = 0;
        for (int c = 0; c < CLUSTERS; c++) {
            int from = topCell(c);
            int to = from - CLUSTERS;
            if (imageSays[from]) {
                imageSays[to] = true;
                imageWords[to] = imageWords[from];
                imageSays[from] = false;
                words++;
            }
        }
        imageCount--;
        return words;
    }
}
