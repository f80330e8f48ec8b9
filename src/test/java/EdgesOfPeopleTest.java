/** The edges of promises 1 and 2, and of PEOPLE and the constants. */
final class EdgesOfPeopleTest {
    private static final Check CHECK = new Check("EdgesOfPeopleTest");

    public static void main(String[] args) {
        nobodyIsMinusOne();
        atFirstOnePerson();
        atFirstNoItems();
        atFirstACakeOfLengthOne();
        atFirstAllValuesAreNothing();
        atFirstNothingIsDivided();
        peopleAreOneToSix();
        lastPersonAndFirstThatIsNone();
        otherwiseAllIsAsAtFirst();
        CHECK.end();
    }

    private static void nobodyIsMinusOne() {
        CHECK.sentence("Terms", "`NONE = -1`: Nobody; nothing.");
        CHECK.same("NONE", FairDesk.NONE, -1);
    }

    private static void atFirstOnePerson() {
        CHECK.sentence("Promise 1", "One person");
        FairDesk desk = new FairDesk();
        CHECK.same("worth(0, 0)", desk.worth(0, 0), 0);
        CHECK.badIndex("worth(1, 0)", () -> desk.worth(1, 0));
        CHECK.badIndex("worth(0, 1)", () -> desk.worth(0, 1));
        CHECK.badIndex("picks(1)", () -> desk.picks(1));
        CHECK.badIndex("room(0, 1, 0)", () -> desk.room(0, 1, 0));
        CHECK.badIndex("density(1, 0, 0)", () -> desk.density(1, 0, 0));
        desk.items(2);
        desk.value(0, 1, 9);
        desk.picks(0);
        CHECK.same("in turns", Desks.holders(desk, 2), "0 0");
        CHECK.same("circles()", desk.circles(), 0);
        CHECK.same("by circles", Desks.holders(desk, 2), "0 0");
        CHECK.same("product()", desk.product(), 9);
        CHECK.same("guarantee(0)", desk.guarantee(0), 9);
        desk.total(5);
        CHECK.badState("the one room's value is not the total", () -> desk.rooms());
        desk.room(0, 0, 5);
        CHECK.same("rooms()", desk.rooms(), 5);
        CHECK.same("the rent", Desks.rents(desk, 1), "0 for 5/1");
        desk.density(0, 0, 3);
        desk.cut(false);
        CHECK.same("the cake", Desks.taste(desk, 0, 0), "3/1");
    }

    private static void atFirstNoItems() {
        CHECK.sentence("Promise 1", "no items");
        FairDesk desk = new FairDesk();
        CHECK.badIndex("holder(0)", () -> desk.holder(0));
        CHECK.badIndex("value(0, 0, 0)", () -> desk.value(0, 0, 0));
        CHECK.badIndex("give(0, NONE)", () -> desk.give(0, FairDesk.NONE));
        CHECK.taken("picks(0)", () -> desk.picks(0));
        CHECK.same("circles()", desk.circles(), 0);
        CHECK.same("product()", desk.product(), 1);
        CHECK.same("guarantee(0)", desk.guarantee(0), 0);
    }

    private static void atFirstACakeOfLengthOne() {
        CHECK.sentence("Promise 1", "a cake of length 1");
        for (boolean halves : new boolean[] {false, true}) {
            FairDesk desk = new FairDesk();
            desk.cut(halves);
            CHECK.same("the piece", Desks.pieces(desk, 1), "0/1 to 1/1");
        }
    }

    private static void atFirstAllValuesAreNothing() {
        CHECK.sentence("Promise 1", "all values 0");
        FairDesk desk = new FairDesk();
        desk.items(12);
        for (int item = 0; item < 12; item++) {
            CHECK.same("value of item " + item, desk.value(0, item, 1), 0);
        }
        CHECK.same("total", desk.total(1), 0);
        CHECK.same("value of room 0", desk.room(0, 0, 1), 0);
        for (int k = 0; k < 16; k++) {
            CHECK.same("density of part " + k, desk.density(0, k, 1), 0);
        }
    }

    private static void atFirstNothingIsDivided() {
        CHECK.sentence("Promise 1", "nothing divided");
        FairDesk desk = new FairDesk();
        for (int what = 0; what < 3; what++) {
            int part = what;
            CHECK.badState("rent(0, " + what + ")", () -> desk.rent(0, part));
        }
        for (int what = 0; what < 4; what++) {
            int part = what;
            CHECK.badState("piece(0, " + what + ")", () -> desk.piece(0, part));
        }
        CHECK.badState("taste(0, 0, 0)", () -> desk.taste(0, 0, 0));
        CHECK.badState("taste(0, 0, 1)", () -> desk.taste(0, 0, 1));
        desk.items(12);
        CHECK.same("holders", Desks.holders(desk, 12), "-1 -1 -1 -1 -1 -1 -1 -1 -1 -1 -1 -1");
    }

    private static void peopleAreOneToSix() {
        CHECK.sentence("Promise 2", "IllegalArgumentException, when n is not 1 .. 6.");
        for (int n : Desks.outside(1, 6)) {
            CHECK.badArgument("people(" + n + ")", () -> Desks.ofPeople(n));
        }
        CHECK.taken("people(1)", () -> Desks.ofPeople(1));
        CHECK.taken("people(6)", () -> Desks.ofPeople(6));
        FairDesk desk = Desks.withGoods(Desks.rowsAlike(6, 12, 3));
        desk.picks(5);
        for (int n : Desks.outside(1, 6)) {
            CHECK.badArgument("people(" + n + ")", () -> desk.people(n));
        }
        CHECK.same("what the last one holds when it was refused", desk.worth(5, 5), 6);
    }

    private static void lastPersonAndFirstThatIsNone() {
        CHECK.sentence("Terms", "PEOPLE are 0 .. n - 1");
        for (int n = 1; n <= 6; n++) {
            FairDesk desk = Desks.ofPeople(n);
            desk.items(1);
            desk.rooms();
            desk.cut(true);
            CHECK.same("of " + n + ": person 0", refusals(desk, 0), "");
            CHECK.same("of " + n + ": the last person", refusals(desk, n - 1), "");
            String all = "value picks give worth worth envy envy guarantee room room rent density piece taste taste ";
            for (int p : new int[] {n, Integer.MAX_VALUE, Integer.MIN_VALUE, -2}) {
                CHECK.same("of " + n + ": person " + p, refusals(desk, p), all);
            }
            CHECK.same("of " + n + ": NONE", refusals(desk, FairDesk.NONE), all.replace("give ", ""));
        }
    }

    /** The names of the methods that do not know such a person. */
    private static String refusals(FairDesk desk, int p) {
        StringBuilder names = new StringBuilder();
        note(names, "value", () -> desk.value(p, 0, 1));
        note(names, "picks", () -> desk.picks(p));
        note(names, "give", () -> desk.give(0, p));
        note(names, "worth", () -> desk.worth(p, 0));
        note(names, "worth", () -> desk.worth(0, p));
        note(names, "envy", () -> desk.envy(p, 0, false));
        note(names, "envy", () -> desk.envy(0, p, true));
        note(names, "guarantee", () -> desk.guarantee(p));
        note(names, "room", () -> desk.room(p, 0, 0));
        note(names, "room", () -> desk.room(0, p, 0));
        note(names, "rent", () -> desk.rent(p, 0));
        note(names, "density", () -> desk.density(p, 0, 0));
        note(names, "piece", () -> desk.piece(p, 0));
        note(names, "taste", () -> desk.taste(p, 0, 0));
        note(names, "taste", () -> desk.taste(0, p, 0));
        return names.toString();
    }

    private static void note(StringBuilder names, String method, Check.Call call) {
        String thrown = Check.thrownBy(call);
        if (thrown.equals("IndexOutOfBoundsException")) {
            names.append(method).append(' ');
        } else if (!thrown.equals("nothing thrown")) {
            names.append(method).append(' ').append(thrown).append(' ');
        }
    }

    private static void otherwiseAllIsAsAtFirst() {
        CHECK.sentence("Promise 2", "There are n people; otherwise all is as at first.");
        FairDesk longer = Desks.withCake(Desks.rowsAlike(2, 16, 12));
        longer.people(2);
        longer.cut(true);
        CHECK.same("the cake", Desks.pieces(longer, 2), "0/1 to 0/1, 0/1 to 1/1");
        for (int before : new int[] {1, 3, 6}) {
            for (int n = 1; n <= 6; n++) {
                String what = "people(" + n + ") behind " + before;
                CHECK.same(what + ": goods", Told.ofGoods(startedAnew(before, n, 12)), Told.ofGoods(neverUsed(n, 12)));
                CHECK.same(what + ": no items", Told.ofGoods(startedAnew(before, n, 0)), Told.ofGoods(neverUsed(n, 0)));
                CHECK.same(what + ": rooms", Told.ofRooms(startedAnew(before, n, 0)), Told.ofRooms(neverUsed(n, 0)));
                CHECK.same(what + ": cake", Told.ofCake(startedAnew(before, n, 0)), Told.ofCake(neverUsed(n, 0)));
            }
        }
    }

    /** With 12 items those are told too that only come again; with 0, that there are none. */
    private static FairDesk startedAnew(int before, int n, int items) {
        FairDesk desk = Desks.withGoods(Desks.rowsAlike(before, 12, 1000));
        desk.total(before);
        desk.cake(16);
        for (int p = 0; p < before; p++) {
            for (int r = 0; r < before; r++) {
                desk.room(p, r, 1);
            }
            for (int k = 0; k < 16; k++) {
                desk.density(p, k, 12);
            }
        }
        desk.picks(0);
        desk.rooms();
        desk.cut(true);
        desk.people(n);
        if (items > 0) {
            desk.items(items);
        }
        return desk;
    }

    private static FairDesk neverUsed(int n, int items) {
        FairDesk desk = Desks.ofPeople(n);
        if (items > 0) {
            desk.items(items);
        }
        return desk;
    }
}
