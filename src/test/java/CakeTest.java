/** Promises 17 to 21 with ordinary inputs; EdgesOfCakeTest has their edges and wrong inputs. */
final class CakeTest {
    private static final Check CHECK = new Check("CakeTest");

    public static void main(String[] args) {
        lengthAndDensities();
        leastMarks();
        halves();
        taste();
        goodsAndRoomsAreApart();
        CHECK.end();
    }

    private static FairDesk fourWithFourParts() {
        return Desks.withCake(Desks.row(1, 2, 3, 4), Desks.row(4, 3, 2, 1), Desks.row(0, 0, 5, 0), Desks.row(0, 0, 0, 0));
    }

    private static void lengthAndDensities() {
        FairDesk desk = Desks.withCake(Desks.row(1, 2, 3));
        CHECK.same("density(0, 1, 7)", desk.density(0, 1, 7), 2);
        CHECK.same("density(0, 1, 2)", desk.density(0, 1, 2), 7);
        desk.cake(2);
        desk.cut(false);
        CHECK.same("shorter", Desks.pieces(desk, 1) + " worth " + Desks.taste(desk, 0, 0), "0/1 to 2/1 worth 3/1");
        desk.cake(8);
        desk.cut(true);
        CHECK.same("longer", Desks.pieces(desk, 1) + " worth " + Desks.taste(desk, 0, 0), "0/1 to 8/1 worth 6/1");
    }

    private static void leastMarks() {
        FairDesk desk = fourWithFourParts();
        desk.cut(false);
        CHECK.same("pieces", Desks.pieces(desk, 4), "5/8 to 49/24, 0/1 to 5/8, 49/24 to 4/1, 0/1 to 0/1");
    }

    private static void halves() {
        FairDesk desk = fourWithFourParts();
        desk.cut(true);
        CHECK.same("two and two", Desks.pieces(desk, 4), "5/2 to 4/1, 0/1 to 4/3, 4/3 to 5/2, 0/1 to 0/1");
        // Of three the first one gets up to its third; the others halve what the rest is worth to them.
        FairDesk three = Desks.withCake(Desks.row(6, 6), Desks.row(12, 0), Desks.row(0, 12));
        three.cut(true);
        CHECK.same("one and two", Desks.pieces(three, 3), "1/3 to 7/6, 0/1 to 1/3, 7/6 to 2/1");
    }

    private static void taste() {
        FairDesk desk = fourWithFourParts();
        desk.cut(false);
        CHECK.same("to the one who has it", Desks.taste(desk, 0, 0), "5/2");
        CHECK.same("to another", Desks.taste(desk, 1, 2), "35/12");
        desk.density(1, 2, 4);
        CHECK.same("by the new density", Desks.taste(desk, 1, 2), "29/6");
    }

    private static void goodsAndRoomsAreApart() {
        FairDesk desk = fourWithFourParts();
        desk.cut(true);
        desk.items(5);
        desk.circles();
        desk.rooms();
        desk.total(7);
        CHECK.same("pieces", Desks.pieces(desk, 4), "5/2 to 4/1, 0/1 to 4/3, 4/3 to 5/2, 0/1 to 0/1");
    }
}
