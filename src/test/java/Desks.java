import java.util.Arrays;

/** Desks to test with, and what they answer in one line. */
final class Desks {
    private Desks() {
    }

    static int[] row(int... numbers) {
        return numbers;
    }

    static int[][] rowsAlike(int rows, int columns, int number) {
        int[][] all = new int[rows][columns];
        for (int[] row : all) {
            Arrays.fill(row, number);
        }
        return all;
    }

    /** The first numbers below and above a range, and the last ones that there are. */
    static int[] outside(int least, int most) {
        return row(least - 1, most + 1, Integer.MIN_VALUE, Integer.MAX_VALUE);
    }

    static FairDesk ofPeople(int n) {
        FairDesk desk = new FairDesk();
        desk.people(n);
        return desk;
    }

    /** As many people as rows, and as many items as each row has values. */
    static FairDesk withGoods(int[]... rows) {
        FairDesk desk = ofPeople(rows.length);
        desk.items(rows[0].length);
        for (int p = 0; p < rows.length; p++) {
            for (int item = 0; item < rows[p].length; item++) {
                desk.value(p, item, rows[p][item]);
            }
        }
        return desk;
    }

    /** As many people and rooms as rows. */
    static FairDesk withRooms(int total, int[]... rows) {
        FairDesk desk = ofPeople(rows.length);
        desk.total(total);
        for (int p = 0; p < rows.length; p++) {
            for (int r = 0; r < rows.length; r++) {
                desk.room(p, r, rows[p][r]);
            }
        }
        return desk;
    }

    /** As many people as rows, and a cake as long as each row has densities. */
    static FairDesk withCake(int[]... rows) {
        FairDesk desk = ofPeople(rows.length);
        desk.cake(rows[0].length);
        for (int p = 0; p < rows.length; p++) {
            for (int k = 0; k < rows[p].length; k++) {
                desk.density(p, k, rows[p][k]);
            }
        }
        return desk;
    }

    /** Who holds the items from 0 on, such as "0 -1 2". */
    static String holders(FairDesk desk, int m) {
        StringBuilder line = new StringBuilder();
        for (int item = 0; item < m; item++) {
            line.append(item == 0 ? "" : " ").append(desk.holder(item));
        }
        return line.toString();
    }

    /** The rooms and rents of the people from 0 on, such as "1 for 11/2, 0 for 9/2". */
    static String rents(FairDesk desk, int n) {
        StringBuilder line = new StringBuilder();
        for (int p = 0; p < n; p++) {
            line.append(p == 0 ? "" : ", ").append(desk.rent(p, 0)).append(" for ");
            line.append(desk.rent(p, 1)).append('/').append(desk.rent(p, 2));
        }
        return line.toString();
    }

    /** The pieces of the people from 0 on, such as "0/1 to 1/3, 1/3 to 1/1". */
    static String pieces(FairDesk desk, int n) {
        StringBuilder line = new StringBuilder();
        for (int p = 0; p < n; p++) {
            line.append(p == 0 ? "" : ", ").append(desk.piece(p, 0)).append('/').append(desk.piece(p, 1));
            line.append(" to ").append(desk.piece(p, 2)).append('/').append(desk.piece(p, 3));
        }
        return line.toString();
    }

    /** What q's piece is worth to p, such as "5/2". */
    static String taste(FairDesk desk, int p, int q) {
        return desk.taste(p, q, 0) + "/" + desk.taste(p, q, 1);
    }
}
