/** Promises 13 to 16: the rooms and their rents. */
final class RoomsTest {
    private static final Check CHECK = new Check("RoomsTest");

    public static void main(String[] args) {
        room();
        total();
        rooms();
        ofSeveralTheLowest();
        roomsRefused();
        whatWasDividedStays();
        rentBelowNothing();
        rentWithLeads();
        greatestRents();
        CHECK.end();
    }

    private static FairDesk desk(int total, int[]... rows) {
        FairDesk desk = new FairDesk();
        desk.people(rows.length);
        desk.total(total);
        for (int p = 0; p < rows.length; p++) {
            for (int r = 0; r < rows.length; r++) {
                desk.room(p, r, rows[p][r]);
            }
        }
        return desk;
    }

    private static int[] row(int... values) {
        return values;
    }

    private static void got(String what, FairDesk desk, int p, long room, long above, long below) {
        CHECK.same(what + ": room of " + p, desk.rent(p, 0), room);
        CHECK.same(what + ": rent of " + p + " above the line", desk.rent(p, 1), above);
        CHECK.same(what + ": rent of " + p + " below the line", desk.rent(p, 2), below);
    }

    private static void room() {
        FairDesk desk = new FairDesk();
        desk.people(2);
        CHECK.same("at first", desk.room(1, 1, 100000), 0);
        CHECK.same("the greatest", desk.room(1, 1, 0), 100000);
        CHECK.same("the least", desk.room(1, 1, 7), 0);
        CHECK.same("another person's", desk.room(0, 1, 0), 0);
        CHECK.same("another room's", desk.room(1, 0, 0), 0);
        CHECK.badArgument("value -1", () -> desk.room(0, 0, -1));
        CHECK.badArgument("value 100001", () -> desk.room(0, 0, 100001));
        CHECK.badIndex("person 2", () -> desk.room(2, 0, 1));
        CHECK.badIndex("person -1", () -> desk.room(-1, 0, 1));
        CHECK.badIndex("room 2", () -> desk.room(0, 2, 1));
        CHECK.badIndex("room -1", () -> desk.room(0, -1, 1));
        CHECK.badArgument("both wrong: the first that the document names", () -> desk.room(2, 2, -1));
        CHECK.same("nothing changed", desk.room(0, 0, 0), 0);
    }

    private static void total() {
        FairDesk desk = new FairDesk();
        CHECK.same("at first", desk.total(600000), 0);
        CHECK.same("the greatest", desk.total(0), 600000);
        CHECK.same("the least", desk.total(5), 0);
        CHECK.badArgument("total -1", () -> desk.total(-1));
        CHECK.badArgument("total 600001", () -> desk.total(600001));
        CHECK.same("nothing changed", desk.total(5), 5);
    }

    private static void rooms() {
        FairDesk desk = desk(900, row(500, 300, 100), row(400, 400, 100), row(600, 200, 100));
        CHECK.badState("not divided: rent(0, 0)", () -> desk.rent(0, 0));
        CHECK.same("rooms()", desk.rooms(), 1100);
        got("three people", desk, 0, 2, 100, 3);
        got("three people", desk, 1, 1, 1000, 3);
        got("three people", desk, 2, 0, 1600, 3);
        CHECK.badIndex("rent(3, 0)", () -> desk.rent(3, 0));
        CHECK.badIndex("rent(-1, 0)", () -> desk.rent(-1, 0));
        CHECK.badIndex("rent(0, 3)", () -> desk.rent(0, 3));
        CHECK.badIndex("rent(0, -1)", () -> desk.rent(0, -1));
        FairDesk fresh = new FairDesk();
        CHECK.badIndex("not divided, and no such person: the first that the document names", () -> fresh.rent(1, 0));
        CHECK.badIndex("not divided, and no such what", () -> fresh.rent(0, 3));
    }

    private static void ofSeveralTheLowest() {
        FairDesk desk = desk(9, row(3, 3, 3), row(3, 3, 3), row(3, 3, 3));
        CHECK.same("rooms()", desk.rooms(), 9);
        for (int p = 0; p < 3; p++) {
            got("all alike", desk, p, p, 3, 1);
        }
        // 0 and 1 both like rooms 0 and 2; 0 gets the lower one.
        FairDesk two = desk(10, row(5, 0, 5), row(5, 0, 5), row(4, 2, 4));
        CHECK.same("rooms()", two.rooms(), 12);
        CHECK.same("room of 0", two.rent(0, 0), 0);
        CHECK.same("room of 1", two.rent(1, 0), 2);
        CHECK.same("room of 2", two.rent(2, 0), 1);
    }

    private static void roomsRefused() {
        FairDesk desk = desk(10, row(4, 6), row(5, 5));
        desk.room(1, 1, 6);
        CHECK.badState("the last one's values are more", () -> desk.rooms());
        CHECK.badState("not divided", () -> desk.rent(0, 0));
        desk.room(1, 1, 5);
        desk.room(0, 0, 3);
        CHECK.badState("the first one's values are less", () -> desk.rooms());
        desk.room(0, 0, 4);
        CHECK.same("now they are the total", desk.rooms(), 11);
    }

    private static void whatWasDividedStays() {
        FairDesk desk = desk(10, row(4, 6), row(5, 5));
        desk.rooms();
        got("divided", desk, 0, 1, 11, 2);
        got("divided", desk, 1, 0, 9, 2);
        desk.room(0, 0, 10);
        desk.total(20);
        CHECK.badState("not the total", () -> desk.rooms());
        got("as before", desk, 0, 1, 11, 2);
        got("as before", desk, 1, 0, 9, 2);
        desk.items(3);
        desk.cake(2);
        got("goods and cake are apart", desk, 1, 0, 9, 2);
        desk.people(2);
        CHECK.badState("people start anew", () -> desk.rent(0, 0));
    }

    private static void rentBelowNothing() {
        // The third room is worth nothing to anybody, and 2, who has it, must not envy 0 and 1.
        FairDesk desk = desk(36, row(36, 0, 0), row(0, 36, 0), row(18, 18, 0));
        CHECK.same("rooms()", desk.rooms(), 72);
        got("equal savings", desk, 0, 0, 24, 1);
        got("equal savings", desk, 1, 1, 24, 1);
        got("one is paid to live there", desk, 2, 2, -12, 1);
    }

    private static void rentWithLeads() {
        // 0 likes room 1 more than 1, who has it, does: 0 must save so much more than 1.
        FairDesk desk = desk(100, row(60, 40, 0), row(10, 30, 60), row(0, 0, 100));
        CHECK.same("rooms()", desk.rooms(), 190);
        long below = desk.rent(0, 2) * desk.rent(1, 2) * desk.rent(2, 2);
        long all = 0;
        for (int p = 0; p < 3; p++) {
            all += desk.rent(p, 1) * (below / desk.rent(p, 2));
        }
        CHECK.same("together the total", all, 100 * below);
        got("leads", desk, 0, 0, 70, 3);
        got("leads", desk, 1, 1, 10, 3);
        got("leads", desk, 2, 2, 220, 3);
    }

    private static void greatestRents() {
        int[][] rows = new int[6][6];
        for (int p = 0; p < 6; p++) {
            java.util.Arrays.fill(rows[p], 100000);
        }
        FairDesk desk = desk(600000, rows);
        CHECK.same("rooms()", desk.rooms(), 600000);
        got("six people", desk, 5, 5, 100000, 1);
        FairDesk nothing = new FairDesk();
        CHECK.same("worth nothing: rooms()", nothing.rooms(), 0);
        got("worth nothing", nothing, 0, 0, 0, 1);
    }
}
