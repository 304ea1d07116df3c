import java.util.Arrays;

/** The best choice, found by settling one entry after the other and weighing the rest anew. */
final class ModelChoice {
    private static final int FREE = 0;
    private static final int KEPT = 1;
    private static final int LEFT = 2;
    private static final int IMPOSSIBLE = Integer.MAX_VALUE;

    private final int[] hits;
    private final int[] parents;
    private final int[] settled;

    private ModelChoice(int[] hits, int[] parents) {
        this.hits = hits;
        this.parents = parents;
        this.settled = new int[hits.length];
    }

    static boolean[] best(int[] hits, int[] parents, int capacity) {
        ModelChoice choice = new ModelChoice(hits, parents);
        long bestValue = choice.value(capacity);
        boolean[] kept = new boolean[hits.length];
        for (int i = 0; i < hits.length; i++) {
            choice.settled[i] = KEPT;
            kept[i] = choice.value(capacity) == bestValue;
            choice.settled[i] = kept[i] ? KEPT : LEFT;
        }
        return kept;
    }

    static int lost(int[] hits, int[] parents, int capacity) {
        return (int) (new ModelChoice(hits, parents).value(capacity) / 1000);
    }

    /** The fewest lost hits and then the fewest places, as one number. */
    private long value(int capacity) {
        int[] lost = {0};
        for (int i = 0; i < hits.length; i++) {
            if (parents[i] < 0) {
                lost = sum(lost, tree(i, false));
            }
        }
        long best = Long.MAX_VALUE;
        for (int places = 0; places < lost.length && places <= capacity; places++) {
            if (lost[places] != IMPOSSIBLE) {
                best = Math.min(best, lost[places] * 1000L + places);
            }
        }
        return best;
    }

    /** The fewest lost hits of an entry and all inside it, by the number of places. */
    private int[] tree(int entry, boolean parentKept) {
        int[] ifKept = {IMPOSSIBLE, settled[entry] == LEFT ? IMPOSSIBLE : 0};
        int forIt = settled[entry] == KEPT ? IMPOSSIBLE : hits[entry];
        int[] ifLeft = parentKept ? new int[] {IMPOSSIBLE, forIt} : new int[] {forIt};
        for (int child = entry + 1; child < hits.length; child++) {
            if (parents[child] == entry) {
                ifKept = sum(ifKept, tree(child, true));
                ifLeft = sum(ifLeft, tree(child, false));
            }
        }
        int[] result = new int[Math.max(ifKept.length, ifLeft.length)];
        for (int i = 0; i < result.length; i++) {
            result[i] = Math.min(i < ifKept.length ? ifKept[i] : IMPOSSIBLE,
                    i < ifLeft.length ? ifLeft[i] : IMPOSSIBLE);
        }
        return result;
    }

    private static int[] sum(int[] a, int[] b) {
        int[] result = new int[a.length + b.length - 1];
        Arrays.fill(result, IMPOSSIBLE);
        for (int i = 0; i < a.length; i++) {
            for (int k = 0; k < b.length; k++) {
                if (a[i] != IMPOSSIBLE && b[k] != IMPOSSIBLE) {
                    result[i + k] = Math.min(result[i + k], a[i] + b[k]);
                }
            }
        }
        return result;
    }

    /** The same by trying all choices: only for few entries. */
    static boolean[] bestOfAll(int[] hits, int[] parents, int capacity) {
        int n = hits.length;
        long bestValue = Long.MAX_VALUE;
        int best = 0;
        // Entry 0 is the highest bit, so that of equals the greatest number is the right one.
        for (int choice = (1 << n) - 1; choice >= 0; choice--) {
            int lost = 0;
            int places = 0;
            for (int i = 0; i < n; i++) {
                boolean kept = (choice >> (n - 1 - i) & 1) == 1;
                boolean parentKept = parents[i] >= 0 && (choice >> (n - 1 - parents[i]) & 1) == 1;
                lost += kept ? 0 : hits[i];
                places += kept || parentKept ? 1 : 0;
            }
            if (places <= capacity && lost * 1000L + places < bestValue) {
                bestValue = lost * 1000L + places;
                best = choice;
            }
        }
        boolean[] kept = new boolean[n];
        for (int i = 0; i < n; i++) {
            kept[i] = (best >> (n - 1 - i) & 1) == 1;
        }
        return kept;
    }
}
