/** Promises 13 to 16 with ordinary inputs; EdgesOfRoomsTest has their edges and wrong inputs. */
final class RoomsTest {
    private static final Check CHECK = new Check("RoomsTest");

    public static void main(String[] args) {
        valuesAndTotal();
        thirds();
        ofSeveralTheLower();
        oneIsPaidToLiveThere();
        savingsThatDiffer();
        goodsAndCakeAreApart();
        CHECK.end();
    }

    private static void rooms(String what, FairDesk desk, int sum, int n, String rents) {
        CHECK.same(what + ": rooms()", desk.rooms(), sum);
        CHECK.same(what + ": rents", Desks.rents(desk, n), rents);
    }

    private static void valuesAndTotal() {
        FairDesk desk = Desks.withRooms(900, Desks.row(500, 400), Desks.row(300, 600));
        CHECK.same("room(1, 0, 200)", desk.room(1, 0, 200), 300);
        CHECK.same("room(1, 0, 300)", desk.room(1, 0, 300), 200);
        CHECK.same("total(800)", desk.total(800), 900);
        CHECK.same("total(900)", desk.total(900), 800);
    }

    private static void thirds() {
        int[][] rows = {{500, 300, 100}, {400, 400, 100}, {600, 200, 100}};
        rooms("three people", Desks.withRooms(900, rows), 1100, 3, "2 for 100/3, 1 for 1000/3, 0 for 1600/3");
    }

    private static void ofSeveralTheLower() {
        // 0 and 1 both like rooms 0 and 2; 0 gets the lower one.
        FairDesk desk = Desks.withRooms(10, Desks.row(5, 0, 5), Desks.row(5, 0, 5), Desks.row(4, 2, 4));
        CHECK.same("rooms()", desk.rooms(), 12);
        CHECK.same("who gets which", desk.rent(0, 0) + " " + desk.rent(1, 0) + " " + desk.rent(2, 0), "0 2 1");
    }

    private static void oneIsPaidToLiveThere() {
        // The third room is worth nothing to anybody, and 2, who has it, must not envy 0 and 1.
        int[][] rows = {{36, 0, 0}, {0, 36, 0}, {18, 18, 0}};
        rooms("equal savings", Desks.withRooms(36, rows), 72, 3, "0 for 24/1, 1 for 24/1, 2 for -12/1");
    }

    private static void savingsThatDiffer() {
        // 0 likes room 1 more than 1, who has it, does: 0 must save so much more than 1.
        int[][] rows = {{60, 40, 0}, {10, 30, 60}, {0, 0, 100}};
        rooms("by ten", Desks.withRooms(100, rows), 190, 3, "0 for 70/3, 1 for 10/3, 2 for 220/3");
    }

    private static void goodsAndCakeAreApart() {
        FairDesk desk = Desks.withRooms(10, Desks.row(4, 6), Desks.row(5, 5));
        desk.rooms();
        desk.items(3);
        desk.picks(1);
        desk.cake(2);
        desk.cut(true);
        CHECK.same("as divided", Desks.rents(desk, 2), "1 for 11/2, 0 for 9/2");
    }
}
