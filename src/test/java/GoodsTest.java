/** Promises 3 to 12 with ordinary inputs; EdgesOfGoodsTest and EdgesOfDivisionTest have their edges and wrong inputs. */
final class GoodsTest {
    private static final Check CHECK = new Check("GoodsTest");

    public static void main(String[] args) {
        valuesAndHolders();
        picks();
        circles();
        product();
        worthAndEnvy();
        guarantee();
        CHECK.end();
    }

    private static FairDesk threeWithSixItems() {
        return Desks.withGoods(Desks.row(5, 4, 3, 3, 2, 1), Desks.row(5, 1, 1, 4, 4, 1), Desks.row(2, 5, 5, 1, 1, 0));
    }

    private static void valuesAndHolders() {
        FairDesk desk = threeWithSixItems();
        CHECK.same("value(1, 3, 8)", desk.value(1, 3, 8), 4);
        CHECK.same("value(1, 3, 4)", desk.value(1, 3, 4), 8);
        CHECK.same("give(3, 2)", desk.give(3, 2), FairDesk.NONE);
        CHECK.same("give(3, 1)", desk.give(3, 1), 2);
        CHECK.same("holders", Desks.holders(desk, 6), "-1 -1 -1 1 -1 -1");
        desk.items(5);
        CHECK.same("value(1, 3, 4) of fewer items", desk.value(1, 3, 4), 4);
        CHECK.same("holders of fewer items", Desks.holders(desk, 5), "-1 -1 -1 -1 -1");
    }

    private static void picks() {
        FairDesk desk = Desks.withGoods(Desks.row(3, 9, 9, 1, 0), Desks.row(9, 9, 1, 1, 0), Desks.row(5, 5, 5, 5, 5));
        desk.picks(0);
        CHECK.same("from 0 on", Desks.holders(desk, 5), "1 0 2 0 1");
        desk.picks(2);
        CHECK.same("from 2 on", Desks.holders(desk, 5), "2 0 1 2 0");
    }

    private static void circles() {
        FairDesk desk = threeWithSixItems();
        CHECK.same("circles()", desk.circles(), 0);
        CHECK.same("no circle", Desks.holders(desk, 6), "0 1 2 1 0 2");
        // After two items each has what the other likes better.
        FairDesk two = Desks.withGoods(Desks.row(1, 5, 1), Desks.row(5, 2, 1));
        CHECK.same("circles() of two", two.circles(), 1);
        CHECK.same("a circle", Desks.holders(two, 3), "1 0 0");
    }

    private static void product() {
        FairDesk desk = threeWithSixItems();
        CHECK.same("product()", desk.product(), 480);
        CHECK.same("by product", Desks.holders(desk, 6), "0 2 2 1 1 0");
        CHECK.same("6 times 8 times 10", desk.worth(0, 0) + " " + desk.worth(1, 1) + " " + desk.worth(2, 2), "6 8 10");
    }

    private static void worthAndEnvy() {
        FairDesk desk = Desks.withGoods(Desks.row(5, 4, 3, 2), Desks.row(1, 1, 1, 9));
        desk.give(0, 1);
        desk.give(1, 1);
        desk.give(2, 0);
        CHECK.same("worth(0, 0)", desk.worth(0, 0), 3);
        CHECK.same("worth(0, 1)", desk.worth(0, 1), 9);
        CHECK.same("worth(1, 0)", desk.worth(1, 0), 1);
        CHECK.same("worth(1, 1)", desk.worth(1, 1), 2);
        CHECK.same("envy(0, 1)", desk.envy(0, 1, false), 6);
        CHECK.same("envy(0, 1) with drop", desk.envy(0, 1, true), 1);
        CHECK.same("envy(1, 0)", desk.envy(1, 0, false), 0);
        desk.give(3, 0);
        CHECK.same("envy(1, 0) now", desk.envy(1, 0, false), 8);
        CHECK.same("envy(1, 0) with drop", desk.envy(1, 0, true), 0);
        desk.value(1, 3, 4);
        CHECK.same("envy(1, 0) by the new value", desk.envy(1, 0, false), 3);
    }

    private static void guarantee() {
        FairDesk desk = threeWithSixItems();
        CHECK.same("guarantee(0)", desk.guarantee(0), 6);
        CHECK.same("guarantee(1)", desk.guarantee(1), 5);
        CHECK.same("guarantee(2)", desk.guarantee(2), 4);
        // The best bundles are 7+5+5 and 6+6+5: to take the greatest for the least bundle in turn does worse.
        FairDesk hard = Desks.withGoods(Desks.row(7, 6, 6, 5, 5, 5), Desks.row(0, 0, 0, 0, 0, 0));
        CHECK.same("not found by taking turns", hard.guarantee(0), 17);
    }
}
