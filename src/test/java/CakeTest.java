/** Promises 17 to 21: the cake. */
final class CakeTest {
    private static final Check CHECK = new Check("CakeTest");

    public static void main(String[] args) {
        cake();
        density();
        leastMarks();
        halves();
        sameMarks();
        nothingWorth();
        howItIsCutStays();
        piece();
        taste();
        CHECK.end();
    }

    private static FairDesk desk(int[]... rows) {
        FairDesk desk = new FairDesk();
        desk.people(rows.length);
        desk.cake(rows[0].length);
        for (int p = 0; p < rows.length; p++) {
            for (int k = 0; k < rows[p].length; k++) {
                desk.density(p, k, rows[p][k]);
            }
        }
        return desk;
    }

    private static int[] row(int... densities) {
        return densities;
    }

    private static void pieces(String what, FairDesk desk, String... want) {
        for (int p = 0; p < want.length; p++) {
            String got = desk.piece(p, 0) + "/" + desk.piece(p, 1) + " " + desk.piece(p, 2) + "/" + desk.piece(p, 3);
            CHECK.same(what + ": piece of " + p, got, want[p]);
        }
    }

    private static void cake() {
        FairDesk desk = desk(row(1, 2, 3));
        desk.cut(false);
        desk.cake(2);
        CHECK.badState("not cut: piece(0, 0)", () -> desk.piece(0, 0));
        CHECK.badState("not cut: taste(0, 0, 0)", () -> desk.taste(0, 0, 0));
        desk.cut(false);
        pieces("shorter", desk, "0/1 2/1");
        CHECK.same("shorter: worth", desk.taste(0, 0, 0), 3);
        desk.cake(16);
        desk.cut(true);
        pieces("longer", desk, "0/1 16/1");
        CHECK.same("densities that were told stay, others are 0", desk.taste(0, 0, 0), 6);
        for (int length : new int[] {0, 17, -1, Integer.MAX_VALUE}) {
            CHECK.badArgument("cake(" + length + ")", () -> desk.cake(length));
        }
        pieces("still cut", desk, "0/1 16/1");
    }

    private static void density() {
        FairDesk desk = new FairDesk();
        desk.people(2);
        CHECK.same("at first", desk.density(1, 15, 12), 0);
        CHECK.same("the greatest, behind the cake's end", desk.density(1, 15, 0), 12);
        CHECK.same("the least", desk.density(1, 15, 3), 0);
        CHECK.same("another person's", desk.density(0, 15, 0), 0);
        CHECK.same("another place's", desk.density(1, 14, 0), 0);
        CHECK.badArgument("density -1", () -> desk.density(0, 0, -1));
        CHECK.badArgument("density 13", () -> desk.density(0, 0, 13));
        CHECK.badIndex("person 2", () -> desk.density(2, 0, 1));
        CHECK.badIndex("person -1", () -> desk.density(-1, 0, 1));
        CHECK.badIndex("place 16", () -> desk.density(0, 16, 1));
        CHECK.badIndex("place -1", () -> desk.density(0, -1, 1));
        CHECK.badArgument("both wrong: the first that the document names", () -> desk.density(2, 16, 13));
        CHECK.same("nothing changed", desk.density(0, 0, 0), 0);
    }

    private static void leastMarks() {
        FairDesk desk = desk(row(1, 2, 3, 4), row(4, 3, 2, 1), row(0, 0, 5, 0), row(0, 0, 0, 0));
        desk.cut(false);
        pieces("least marks", desk, "5/8 49/24", "0/1 5/8", "49/24 4/1", "0/1 0/1");
        // The whole is shared by n, whoever is left: 1 gets a third of 12 from where 0 ends.
        FairDesk three = desk(row(12, 0), row(6, 6), row(0, 12));
        three.cut(false);
        pieces("a third each", three, "0/1 1/3", "1/3 1/1", "1/1 2/1");
    }

    private static void halves() {
        FairDesk desk = desk(row(1, 2, 3, 4), row(4, 3, 2, 1), row(0, 0, 5, 0), row(0, 0, 0, 0));
        desk.cut(true);
        pieces("halves", desk, "5/2 4/1", "0/1 4/3", "4/3 5/2", "0/1 0/1");
        // Of three the first one gets up to its third; the others halve what the rest is worth to them.
        FairDesk three = desk(row(6, 6), row(12, 0), row(0, 12));
        three.cut(true);
        pieces("one and two", three, "1/3 7/6", "0/1 1/3", "7/6 2/1");
    }

    private static void sameMarks() {
        FairDesk desk = desk(row(1), row(1), row(1), row(1), row(1));
        desk.cut(false);
        pieces("least marks, of the same the lowest", desk, "0/1 1/5", "1/5 2/5", "2/5 3/5", "3/5 4/5", "4/5 1/1");
        desk.cut(true);
        pieces("halves, of the same the lower first", desk, "0/1 1/5", "1/5 2/5", "2/5 3/5", "3/5 4/5", "4/5 1/1");
    }

    private static void nothingWorth() {
        FairDesk desk = desk(row(0, 0), row(0, 0), row(0, 0));
        desk.cut(false);
        pieces("least marks of nothing", desk, "0/1 0/1", "0/1 0/1", "0/1 2/1");
        desk.cut(true);
        pieces("halves of nothing", desk, "0/1 0/1", "0/1 0/1", "0/1 2/1");
        // The mark is the least place: it does not go on over what is worth nothing.
        FairDesk gap = desk(row(1, 0, 0, 1), row(1, 0, 0, 1));
        gap.cut(true);
        pieces("a gap", gap, "0/1 1/1", "1/1 4/1");
    }

    private static void howItIsCutStays() {
        FairDesk desk = desk(row(1, 1), row(1, 1));
        desk.cut(false);
        desk.density(0, 0, 12);
        desk.density(1, 0, 0);
        pieces("as it was cut", desk, "0/1 1/1", "1/1 2/1");
        CHECK.same("but worth what it is now", desk.taste(0, 0, 0), 12);
        CHECK.same("and so to the other", desk.taste(1, 0, 0), 0);
        CHECK.badArgument("density 13", () -> desk.density(0, 0, 13));
        pieces("still", desk, "0/1 1/1", "1/1 2/1");
        desk.cut(true);
        pieces("cut anew", desk, "0/1 13/24", "13/24 2/1");
        desk.items(5);
        desk.total(7);
        pieces("goods and rooms are apart", desk, "0/1 13/24", "13/24 2/1");
    }

    private static void piece() {
        FairDesk desk = desk(row(1, 1), row(1, 1));
        CHECK.badState("not cut: piece(0, 0)", () -> desk.piece(0, 0));
        CHECK.badIndex("not cut, and no such person: the first that the document names", () -> desk.piece(2, 0));
        CHECK.badIndex("not cut, and no such what", () -> desk.piece(0, 4));
        desk.cut(false);
        CHECK.badIndex("piece(2, 0)", () -> desk.piece(2, 0));
        CHECK.badIndex("piece(-1, 0)", () -> desk.piece(-1, 0));
        CHECK.badIndex("piece(0, 4)", () -> desk.piece(0, 4));
        CHECK.badIndex("piece(0, -1)", () -> desk.piece(0, -1));
    }

    private static void taste() {
        FairDesk desk = desk(row(1, 2, 3, 4), row(4, 3, 2, 1), row(0, 0, 5, 0), row(0, 0, 0, 0));
        CHECK.badState("not cut: taste(0, 0, 0)", () -> desk.taste(0, 0, 0));
        CHECK.badIndex("not cut, and no such person", () -> desk.taste(0, 4, 0));
        CHECK.badIndex("not cut, and no such what", () -> desk.taste(0, 0, 2));
        desk.cut(false);
        CHECK.same("taste(0, 0, 0)", desk.taste(0, 0, 0), 5);
        CHECK.same("taste(0, 0, 1)", desk.taste(0, 0, 1), 2);
        CHECK.same("taste(1, 2, 0)", desk.taste(1, 2, 0), 35);
        CHECK.same("taste(1, 2, 1)", desk.taste(1, 2, 1), 12);
        CHECK.same("nothing above the line", desk.taste(0, 3, 0), 0);
        CHECK.same("one below it", desk.taste(0, 3, 1), 1);
        CHECK.badIndex("taste(4, 0, 0)", () -> desk.taste(4, 0, 0));
        CHECK.badIndex("taste(0, 4, 0)", () -> desk.taste(0, 4, 0));
        CHECK.badIndex("taste(-1, 0, 0)", () -> desk.taste(-1, 0, 0));
        CHECK.badIndex("taste(0, -1, 0)", () -> desk.taste(0, -1, 0));
        CHECK.badIndex("taste(0, 0, 2)", () -> desk.taste(0, 0, 2));
        CHECK.badIndex("taste(0, 0, -1)", () -> desk.taste(0, 0, -1));
    }
}
