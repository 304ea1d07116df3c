import java.util.Random;

/** The best choice (promises 19 and 22 to 28), compared with a trial of all choices. */
public final class ChoiceTest {
    private static final Check CHECK = new Check("ChoiceTest");

    public static void main(String[] args) {
        Random random = new Random(11);
        for (int run = 0; run < 1500; run++) {
            ForwardingTable x = table(random);
            if (x.compressed() <= 13) {
                compare(run, x);
            }
        }
        CHECK.end();
    }

    private static ForwardingTable table(Random random) {
        ForwardingTable x = new ForwardingTable();
        x.setCapacity(1 + random.nextInt(10));
        int bits = 3 + random.nextInt(4);
        int most = 1 + random.nextInt(4);
        for (int i = random.nextInt(18); i >= 0; i--) {
            int length = random.nextInt(bits + 1);
            x.addRoute(length == 0 ? 0 : random.nextInt() << (32 - length), length, random.nextInt(5));
        }
        for (int i = random.nextInt(30); i >= 0; i--) {
            x.packet(random.nextInt() << (32 - bits), 1 + random.nextInt(most));
        }
        return x;
    }

    private static void compare(int run, ForwardingTable x) {
        int n = x.compressed();
        int[] hits = new int[n];
        int[] parents = new int[n];
        int all = 0;
        for (int i = 0; i < n; i++) {
            hits[i] = (int) x.entry(i, 4);
            parents[i] = (int) x.entry(i, 3);
            all += hits[i];
        }
        int enough = -1;
        for (int capacity = 0; capacity <= n; capacity++) {
            boolean[] kept = ModelChoice.bestOfAll(hits, parents, capacity);
            int lost = all;
            int places = 0;
            for (int i = 0; i < n; i++) {
                lost -= kept[i] ? hits[i] : 0;
                places += kept[i] || parents[i] >= 0 && kept[parents[i]] ? 1 : 0;
            }
            CHECK.due("run " + run + ", lostHitsWith(" + capacity + ")", x.lostHitsWith(capacity), lost);
            if (capacity == x.capacity() || capacity == n && n < x.capacity()) {
                CHECK.due("run " + run + ", targetSize()", x.targetSize(), places);
                CHECK.due("run " + run + ", lostHits()", x.lostHits(), lost);
                for (int i = 0; i < n; i++) {
                    CHECK.due("run " + run + ", entry(" + i + ", 5)", x.entry(i, 5), kept[i] ? 1 : 0);
                }
            }
            if (lost == 0 && enough < 0) {
                enough = capacity;
            }
        }
        CHECK.due("run " + run + ", enough()", x.enough(), enough);
    }
}
