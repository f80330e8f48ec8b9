/** The edges of promises 13 to 16, and of ROOMS, TOTAL, RENTS and FRACTION. */
final class EdgesOfRoomsTest {
    private static final Check CHECK = new Check("EdgesOfRoomsTest");

    public static void main(String[] args) {
        valuesAreNothingToHundredThousand();
        noSuchPersonOrRoom();
        roomTellsWhatItWas();
        whatWasDividedStays();
        totalIsNothingToSixHundredThousand();
        totalTellsWhatItWas();
        roomsOfNothingAndOfMost();
        roomsOfSeveralWays();
        roomsNotTheTotalTogether();
        refusedRoomsChangeNothing();
        rentOfNoSuchPersonOrWhat();
        rentWhenNotDivided();
        rentInLowestTerms();
        rentsAreTheTotalTogether();
        rentsThatNobodyEnvies();
        leastSavingIsTheGreatest();
        CHECK.end();
    }

    private static void rooms(String what, FairDesk desk, int sum, int n, String rents) {
        CHECK.same(what + ": rooms()", desk.rooms(), sum);
        CHECK.same(what + ": rents", Desks.rents(desk, n), rents);
    }

    private static void valuesAreNothingToHundredThousand() {
        CHECK.sentence("Promise 13", "IllegalArgumentException, when v is not 0 .. 100000");
        FairDesk desk = Desks.withRooms(0, Desks.row(1, 2), Desks.row(3, 4));
        for (int v : Desks.outside(0, 100000)) {
            CHECK.badArgument("room(1, 1, " + v + ")", () -> desk.room(1, 1, v));
        }
        CHECK.same("what it is when it was refused", desk.room(1, 1, 0), 4);
        CHECK.same("the least is taken", desk.room(1, 1, 100000), 0);
        CHECK.same("the greatest is taken", desk.room(1, 1, 1), 100000);
    }

    private static void noSuchPersonOrRoom() {
        CHECK.sentence("Promise 13", "IndexOutOfBoundsException, when there is no such person or room.");
        FairDesk desk = Desks.withRooms(0, Desks.row(1, 2), Desks.row(3, 4));
        for (int none : Desks.outside(0, 1)) {
            CHECK.badIndex("room(" + none + ", 0, 9)", () -> desk.room(none, 0, 9));
            CHECK.badIndex("room(0, " + none + ", 9)", () -> desk.room(0, none, 9));
            CHECK.badIndex("room(" + none + ", " + none + ", 9)", () -> desk.room(none, none, 9));
        }
        CHECK.same("what they are when it was refused", desk.room(0, 0, 1) + " " + desk.room(0, 1, 2) + " "
                + desk.room(1, 0, 3) + " " + desk.room(1, 1, 4), "1 2 3 4");
        CHECK.badArgument("all wrong: what the document names first", () -> desk.room(2, 2, 100001));
        CHECK.badArgument("all wrong on the other side", () -> desk.room(-1, -1, -1));
    }

    private static void roomTellsWhatItWas() {
        CHECK.sentence("Promise 13", "A room's value to p becomes v: what it was.");
        FairDesk desk = Desks.ofPeople(6);
        CHECK.same("the last room to the last person at first", desk.room(5, 5, 100000), 0);
        CHECK.same("then", desk.room(5, 5, 0), 100000);
        CHECK.same("then", desk.room(5, 5, 0), 0);
        CHECK.same("to the one before", desk.room(4, 5, 1), 0);
        CHECK.same("of the room before", desk.room(5, 4, 1), 0);
    }

    private static void whatWasDividedStays() {
        CHECK.sentence("Promise 13", "What was divided of the rooms stays.");
        FairDesk desk = Desks.withRooms(10, Desks.row(4, 6), Desks.row(5, 5));
        rooms("divided", desk, 11, 2, "1 for 11/2, 0 for 9/2");
        desk.room(0, 0, 6);
        desk.room(0, 1, 4);
        CHECK.same("with other values", Desks.rents(desk, 2), "1 for 11/2, 0 for 9/2");
        CHECK.badArgument("room(0, 0, 100001)", () -> desk.room(0, 0, 100001));
        CHECK.badIndex("room(0, 2, 1)", () -> desk.room(0, 2, 1));
        CHECK.same("with values refused", Desks.rents(desk, 2), "1 for 11/2, 0 for 9/2");
        rooms("divided anew", desk, 11, 2, "0 for 11/2, 1 for 9/2");
    }

    private static void totalIsNothingToSixHundredThousand() {
        CHECK.sentence("Promise 14", "IllegalArgumentException, when it is not 0 .. 600000.");
        FairDesk desk = new FairDesk();
        desk.total(7);
        for (int total : Desks.outside(0, 600000)) {
            CHECK.badArgument("total(" + total + ")", () -> desk.total(total));
        }
        CHECK.same("what it is when it was refused", desk.total(0), 7);
        CHECK.same("the least is taken", desk.total(600000), 0);
        CHECK.same("the greatest is taken", desk.total(1), 600000);
    }

    private static void totalTellsWhatItWas() {
        CHECK.sentence("Promise 14", "The rent of all rooms becomes total: what it was.");
        FairDesk desk = Desks.withRooms(10, Desks.row(4, 6), Desks.row(5, 5));
        desk.rooms();
        CHECK.same("to the same", desk.total(10), 10);
        CHECK.same("to the greatest", desk.total(600000), 10);
        CHECK.same("what was divided", Desks.rents(desk, 2), "1 for 11/2, 0 for 9/2");
        CHECK.badState("rooms()", () -> desk.rooms());
    }

    private static void roomsOfNothingAndOfMost() {
        CHECK.sentence("Promise 15", "Divides the rooms: the sum of the values of what people get.");
        rooms("at first", new FairDesk(), 0, 1, "0 for 0/1");
        rooms("six at first", Desks.ofPeople(6), 0, 6,
                "0 for 0/1, 1 for 0/1, 2 for 0/1, 3 for 0/1, 4 for 0/1, 5 for 0/1");
        rooms("one alone", Desks.withRooms(100000, Desks.row(100000)), 100000, 1, "0 for 100000/1");
        rooms("the greatest total", Desks.withRooms(600000, Desks.rowsAlike(6, 6, 100000)), 600000, 6,
                "0 for 100000/1, 1 for 100000/1, 2 for 100000/1, 3 for 100000/1, 4 for 100000/1, 5 for 100000/1");
        int[][] apart = new int[6][6];
        for (int p = 0; p < 6; p++) {
            apart[p][5 - p] = 100000;
        }
        rooms("each another room", Desks.withRooms(100000, apart), 600000, 6, "5 for 50000/3, 4 for 50000/3, "
                + "3 for 50000/3, 2 for 50000/3, 1 for 50000/3, 0 for 50000/3");
    }

    private static void roomsOfSeveralWays() {
        CHECK.sentence("Terms", "of several ways that in which the lowest person whose rooms differ has the lower one");
        rooms("all alike", Desks.withRooms(3, Desks.rowsAlike(3, 3, 1)), 3, 3, "0 for 1/1, 1 for 1/1, 2 for 1/1");
        // Only 2 wants room 0, the others take the lower ones of those that are left.
        int[][] rows = {{0, 2, 2}, {0, 2, 2}, {4, 0, 0}};
        rooms("two alike", Desks.withRooms(4, rows), 8, 3, "1 for 2/3, 2 for 2/3, 0 for 8/3");
    }

    private static void roomsNotTheTotalTogether() {
        CHECK.sentence("Promise 15", "IllegalStateException, when to some person the values of all rooms are not the total together");
        for (int n = 1; n <= 6; n++) {
            for (int p = 0; p < n; p++) {
                FairDesk desk = Desks.withRooms(5 * n, Desks.rowsAlike(n, n, 5));
                desk.room(p, n - 1, 4);
                CHECK.badState("one less to " + p + " of " + n, () -> desk.rooms());
                desk.room(p, n - 1, 6);
                CHECK.badState("one more to " + p + " of " + n, () -> desk.rooms());
                desk.room(p, n - 1, 5);
                CHECK.same("the total to all " + n, desk.rooms(), 5 * n);
            }
        }
        FairDesk most = Desks.withRooms(599999, Desks.rowsAlike(6, 6, 100000));
        CHECK.badState("more than the total", () -> most.rooms());
        FairDesk never = Desks.withRooms(100001, Desks.row(100000));
        CHECK.badState("less than the total", () -> never.rooms());
    }

    private static void refusedRoomsChangeNothing() {
        CHECK.sentence("Promise 15", "(nothing changes)");
        FairDesk desk = Desks.withRooms(10, Desks.row(4, 6), Desks.row(5, 5));
        desk.room(1, 0, 4);
        CHECK.badState("rooms() before any", () -> desk.rooms());
        CHECK.badState("still not divided", () -> desk.rent(0, 0));
        desk.room(1, 0, 5);
        desk.rooms();
        desk.total(11);
        CHECK.badState("rooms() behind one", () -> desk.rooms());
        CHECK.same("as divided before", Desks.rents(desk, 2), "1 for 11/2, 0 for 9/2");
        CHECK.same("the total", desk.total(10), 11);
        CHECK.same("a value", desk.room(1, 0, 5), 5);
        rooms("now again", desk, 11, 2, "1 for 11/2, 0 for 9/2");
    }

    private static void rentOfNoSuchPersonOrWhat() {
        CHECK.sentence("Promise 16", "IndexOutOfBoundsException, when there is no such person, or what");
        FairDesk divided = Desks.withRooms(10, Desks.row(4, 6), Desks.row(5, 5));
        divided.rooms();
        FairDesk not = Desks.ofPeople(2);
        for (int none : Desks.outside(0, 1)) {
            CHECK.badIndex("rent(" + none + ", 0)", () -> divided.rent(none, 0));
            CHECK.badIndex("rent(" + none + ", 2)", () -> divided.rent(none, 2));
            CHECK.badIndex("not divided: what the document names first", () -> not.rent(none, 0));
        }
        for (int what : Desks.outside(0, 2)) {
            CHECK.badIndex("rent(0, " + what + ")", () -> divided.rent(0, what));
            CHECK.badIndex("rent(1, " + what + ")", () -> divided.rent(1, what));
            CHECK.badIndex("not divided: what the document names first", () -> not.rent(0, what));
        }
        CHECK.same("the least and greatest what", divided.rent(1, 0) + " " + divided.rent(1, 2), "0 2");
    }

    private static void rentWhenNotDivided() {
        CHECK.sentence("Promise 16", "IllegalStateException, when the rooms were not divided.");
        FairDesk desk = Desks.withRooms(10, Desks.row(4, 6), Desks.row(5, 5));
        for (int what = 0; what < 3; what++) {
            int part = what;
            CHECK.badState("rent(1, " + what + ")", () -> desk.rent(1, part));
        }
        desk.rooms();
        CHECK.taken("divided", () -> desk.rent(1, 0));
        desk.people(2);
        CHECK.badState("people started anew", () -> desk.rent(1, 0));
    }

    private static void rentInLowestTerms() {
        CHECK.sentence("Terms", "A FRACTION is told in lowest terms, what is above the line (0 above 1 for nothing) and what is "
                + "below it (above 0).");
        rooms("whole", Desks.withRooms(6, Desks.rowsAlike(3, 3, 2)), 6, 3, "0 for 2/1, 1 for 2/1, 2 for 2/1");
        rooms("nothing", Desks.withRooms(0, Desks.rowsAlike(4, 4, 0)), 0, 4,
                "0 for 0/1, 1 for 0/1, 2 for 0/1, 3 for 0/1");
        int[][] halves = {{1, 1, 0, 0}, {1, 1, 0, 0}, {0, 0, 1, 1}, {0, 0, 1, 1}};
        rooms("2 by 4", Desks.withRooms(2, halves), 4, 4, "0 for 1/2, 1 for 1/2, 2 for 1/2, 3 for 1/2");
        int[][] below = {{2, 0, 0}, {0, 2, 0}, {1, 1, 0}};
        rooms("below nothing", Desks.withRooms(2, below), 4, 3, "0 for 4/3, 1 for 4/3, 2 for -2/3");
    }

    private static void rentsAreTheTotalTogether() {
        CHECK.sentence("Terms", "The RENTS are FRACTIONS, together the total");
        for (int n = 1; n <= 6; n++) {
            int[][] rows = new int[n][n];
            for (int p = 0; p < n; p++) {
                // All want room 0 most, each a little less than the one before.
                rows[p][0] = 100000 - p;
                rows[p][n - 1] += p;
            }
            FairDesk desk = Desks.withRooms(100000, rows);
            desk.rooms();
            long sum = 0;
            for (int p = 0; p < n; p++) {
                CHECK.isTrue("below the line of " + p + " is not above 0", desk.rent(p, 2) > 0);
                sum += desk.rent(p, 1) * (60 / desk.rent(p, 2));
            }
            CHECK.same("of " + n + " people, in sixtieths", sum, 6000000);
        }
    }

    private static void rentsThatNobodyEnvies() {
        CHECK.sentence("Terms", "to nobody another's room less its rent is more than their own saving");
        // Each but the last wants the next one's room by one more than that one does: so each must save one more.
        int[][] rows = {{49, 11, 0, 0, 0, 0}, {39, 10, 11, 0, 0, 0}, {39, 0, 10, 11, 0, 0}, {39, 0, 0, 10, 11, 0},
            {39, 0, 0, 0, 10, 11}, {40, 2, 2, 3, 3, 10}};
        FairDesk desk = Desks.withRooms(60, rows);
        rooms("savings of 9 to 4", desk, 99, 6, "0 for 40/1, 1 for 2/1, 2 for 3/1, 3 for 4/1, 4 for 5/1, 5 for 6/1");
        int[][] turnedRound = new int[6][6];
        for (int p = 0; p < 6; p++) {
            for (int r = 0; r < 6; r++) {
                turnedRound[p][r] = rows[5 - p][5 - r];
                desk.room(p, r, p == r ? 60 : 0);
            }
        }
        rooms("equal savings on the same desk", desk, 360, 6,
                "0 for 10/1, 1 for 10/1, 2 for 10/1, 3 for 10/1, 4 for 10/1, 5 for 10/1");
        rooms("savings of 4 to 9", Desks.withRooms(60, turnedRound), 99, 6,
                "0 for 6/1, 1 for 5/1, 2 for 4/1, 3 for 3/1, 4 for 2/1, 5 for 40/1");
    }

    private static void leastSavingIsTheGreatest() {
        CHECK.sentence("Terms", "of all such ones those whose least saving is the greatest possible");
        // No rents from 0 to 10 are envied here; only equal ones leave nobody less than 5.
        rooms("each wants another", Desks.withRooms(10, Desks.row(10, 0), Desks.row(0, 10)), 20, 2, "0 for 5/1, 1 for 5/1");
        rooms("a saving of nothing", Desks.withRooms(9, Desks.row(4, 5), Desks.row(4, 5)), 9, 2, "0 for 4/1, 1 for 5/1");
        rooms("one alone saves nothing", Desks.withRooms(7, Desks.row(7)), 7, 1, "0 for 7/1");
    }
}
