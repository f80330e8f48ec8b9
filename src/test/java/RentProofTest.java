import java.util.Random;

/**
 * That the rents are the due ones, shown without any way to find them: they are the total together, nobody
 * envies, and from each person a chain of rooms that would be as good to the one before leads to one of the
 * least saving. Then nobody can save less than now unless the least saving falls, so it can't be raised.
 */
final class RentProofTest {
    private static final int RUNS = 3000;
    private static final Check CHECK = new Check("RentProofTest");

    public static void main(String[] args) {
        Random random = new Random(16);
        for (int run = 0; run < RUNS; run++) {
            int n = 1 + random.nextInt(6);
            int total = random.nextInt(run % 2 == 0 ? 20 : 100001);
            look(run, values(random, n, total), total);
        }
        CHECK.end();
    }

    private static int[][] values(Random random, int n, int total) {
        int[][] values = new int[n][n];
        for (int[] row : values) {
            int left = total;
            int first = random.nextInt(n);
            for (int r = 0; r < n - 1; r++) {
                int v = random.nextInt(left + 1);
                row[(first + r) % n] = v;
                left -= v;
            }
            row[(first + n - 1) % n] = left;
        }
        return values;
    }

    private static void look(int run, int[][] values, int total) {
        int n = values.length;
        FairDesk desk = new FairDesk();
        desk.people(n);
        desk.total(total);
        for (int p = 0; p < n; p++) {
            for (int r = 0; r < n; r++) {
                desk.room(p, r, values[p][r]);
            }
        }
        desk.rooms();
        // All rents are whole when counted in n-ths.
        long[] rent = new long[n];
        int[] room = new int[n];
        long sum = 0;
        for (int p = 0; p < n; p++) {
            CHECK.same("run " + run + ": what is left of n by the line's lower side", n % desk.rent(p, 2), 0);
            room[p] = (int) desk.rent(p, 0);
            rent[p] = desk.rent(p, 1) * (n / desk.rent(p, 2));
            sum += rent[p];
        }
        CHECK.same("run " + run + ": the rents together", sum, (long) total * n);
        proveLeastSaving(run, values, room, rent);
    }

    private static void proveLeastSaving(int run, int[][] values, int[] room, long[] rent) {
        int n = room.length;
        long[][] saving = new long[n][n];
        long least = Long.MAX_VALUE;
        for (int p = 0; p < n; p++) {
            for (int q = 0; q < n; q++) {
                saving[p][q] = (long) values[p][room[q]] * n - rent[q];
            }
            least = Math.min(least, saving[p][p]);
        }
        boolean[] held = new boolean[n];
        for (int round = 0; round <= n; round++) {
            for (int p = 0; p < n; p++) {
                held[p] |= saving[p][p] == least;
                for (int q = 0; q < n; q++) {
                    held[p] |= held[q] && saving[p][q] == saving[p][p];
                }
            }
        }
        for (int p = 0; p < n; p++) {
            for (int q = 0; q < n; q++) {
                CHECK.isTrue("run " + run + ": " + p + " envies " + q, saving[p][q] <= saving[p][p]);
            }
            CHECK.isTrue("run " + run + ": " + p + " saves more than needed", held[p]);
        }
    }
}
