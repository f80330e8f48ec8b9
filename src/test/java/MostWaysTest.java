import java.util.Random;

/** Promises 7 and 12 with as many items as they allow, and with values whose products come near the end of a long. */
final class MostWaysTest {
    private static final int[] MOST_ITEMS = {12, 12, 10, 8, 6, 6};
    private static final int ROUNDS = 4;
    private static final Check CHECK = new Check("MostWaysTest");

    public static void main(String[] args) {
        Random random = new Random(7);
        for (int n = 1; n <= 6; n++) {
            for (int round = 0; round < ROUNDS; round++) {
                compare(random, n, 990, 1000);
                compare(random, n, 500, 1000);
                compare(random, n, 0, 1000);
                compare(random, n, 0, 2);
            }
        }
        CHECK.end();
    }

    private static void compare(Random random, int n, int least, int greatest) {
        int m = MOST_ITEMS[n - 1];
        FairDesk desk = new FairDesk();
        PlainDesk plain = new PlainDesk();
        desk.people(n);
        plain.people(n);
        desk.items(m);
        plain.items(m);
        for (int p = 0; p < n; p++) {
            for (int item = 0; item < m; item++) {
                int v = least + random.nextInt(greatest - least + 1);
                desk.value(p, item, v);
                plain.value(p, item, v);
            }
        }
        String what = n + " people, values " + least + " to " + greatest + ": ";
        CHECK.same(what + "product()", desk.product(), plain.product());
        for (int item = 0; item < m; item++) {
            CHECK.same(what + "holder(" + item + ")", desk.holder(item), plain.holder(item));
        }
        int p = random.nextInt(n);
        CHECK.same(what + "guarantee(" + p + ")", desk.guarantee(p), plain.guarantee(p));
    }
}
