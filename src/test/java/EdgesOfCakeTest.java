/** The edges of promises 17 to 21, and of CAKE, DENSITY, MARK and both ways to cut. */
final class EdgesOfCakeTest {
    private static final Check CHECK = new Check("EdgesOfCakeTest");

    public static void main(String[] args) {
        lengthIsOneToSixteen();
        densitiesThatWereToldStay();
        afterCakeItIsNotCut();
        densitiesAreNothingToTwelve();
        noSuchPersonOrPart();
        densityTellsWhatItWas();
        howTheCakeIsCutStays();
        markOfNothing();
        markIsTheLeastPlace();
        leastMarksAsLongAsTwoAreLeft();
        leastMarksOfSeveral();
        leastMarksTheRest();
        halvesOfOneAlone();
        halvesOfAnOddNumber();
        halvesOfAnEvenNumber();
        halvesOfTheSameMarks();
        cutAnew();
        pieceOfNoSuchPersonOrWhat();
        pieceWhenNotCut();
        tasteOfNoSuchPersonOrWhat();
        tasteWhenNotCut();
        fractionsInLowestTerms();
        worthOfTheWholeCake();
        CHECK.end();
    }

    private static void pieces(String what, FairDesk desk, boolean halves, int n, String want) {
        desk.cut(halves);
        CHECK.same(what + ", cut(" + halves + "): pieces", Desks.pieces(desk, n), want);
    }

    /** Each person wants one part alone: the first the first one, and so on. */
    private static FairDesk eachAnotherPart(int n) {
        int[][] rows = new int[n][n];
        for (int p = 0; p < n; p++) {
            rows[p][p] = 12;
        }
        return Desks.withCake(rows);
    }

    private static void lengthIsOneToSixteen() {
        CHECK.sentence("Promise 17", "IllegalArgumentException, when it is not 1 .. 16.");
        FairDesk desk = new FairDesk();
        desk.cake(16);
        pieces("the greatest", desk, false, 1, "0/1 to 16/1");
        desk.cake(1);
        pieces("the least", desk, false, 1, "0/1 to 1/1");
        desk.cake(5);
        desk.cut(true);
        for (int length : Desks.outside(1, 16)) {
            CHECK.badArgument("cake(" + length + ")", () -> desk.cake(length));
        }
        CHECK.same("still cut when it was refused", Desks.pieces(desk, 1), "0/1 to 5/1");
        pieces("cut anew", desk, false, 1, "0/1 to 5/1");
    }

    private static void densitiesThatWereToldStay() {
        CHECK.sentence("Promise 17", "densities that were told stay (others are 0)");
        FairDesk desk = Desks.ofPeople(2);
        desk.density(1, 15, 12);
        desk.density(1, 0, 1);
        desk.cake(16);
        desk.cut(false);
        CHECK.same("told when the cake was shorter, others 0", Desks.taste(desk, 1, 0) + " " + Desks.taste(desk, 1, 1), "0/1 13/1");
        desk.cake(1);
        desk.cut(false);
        CHECK.same("the part that is left", Desks.taste(desk, 1, 1), "1/1");
        CHECK.same("behind the end it stays too", desk.density(1, 15, 12), 12);
        desk.cake(15);
        desk.cut(false);
        CHECK.same("one too short", Desks.taste(desk, 1, 1), "1/1");
        desk.cake(16);
        desk.cut(false);
        CHECK.same("long again", Desks.taste(desk, 1, 1), "13/1");
    }

    private static void afterCakeItIsNotCut() {
        CHECK.sentence("Promise 17", "it is not cut");
        FairDesk desk = Desks.withCake(Desks.row(1, 1));
        for (int length : new int[] {1, 2, 2, 16}) {
            desk.cut(false);
            CHECK.taken("piece(0, 0)", () -> desk.piece(0, 0));
            desk.cake(length);
            CHECK.badState("behind cake(" + length + "): piece(0, 0)", () -> desk.piece(0, 0));
            CHECK.badState("behind cake(" + length + "): taste(0, 0, 0)", () -> desk.taste(0, 0, 0));
        }
    }

    private static void densitiesAreNothingToTwelve() {
        CHECK.sentence("Promise 18", "IllegalArgumentException, when v is not 0 .. 12");
        FairDesk desk = Desks.withCake(Desks.row(1, 2), Desks.row(3, 4));
        for (int v : Desks.outside(0, 12)) {
            CHECK.badArgument("density(1, 1, " + v + ")", () -> desk.density(1, 1, v));
        }
        CHECK.same("what it is when it was refused", desk.density(1, 1, 0), 4);
        CHECK.same("the least is taken", desk.density(1, 1, 12), 0);
        CHECK.same("the greatest is taken", desk.density(1, 1, 1), 12);
    }

    private static void noSuchPersonOrPart() {
        CHECK.sentence("Promise 18", "IndexOutOfBoundsException, when there is no such person, or k is not 0 .. 15.");
        FairDesk desk = Desks.withCake(Desks.row(1, 2), Desks.row(3, 4));
        for (int none : Desks.outside(0, 1)) {
            CHECK.badIndex("density(" + none + ", 0, 9)", () -> desk.density(none, 0, 9));
        }
        for (int k : Desks.outside(0, 15)) {
            CHECK.badIndex("density(0, " + k + ", 9)", () -> desk.density(0, k, 9));
            CHECK.badIndex("density(2, " + k + ", 9)", () -> desk.density(2, k, 9));
        }
        CHECK.same("what they are when it was refused", desk.density(0, 0, 1) + " " + desk.density(0, 1, 2) + " "
                + desk.density(1, 0, 3) + " " + desk.density(1, 1, 4), "1 2 3 4");
        CHECK.same("the last part, whatever the length", desk.density(1, 15, 1), 0);
        CHECK.badArgument("all wrong: what the document names first", () -> desk.density(2, 16, 13));
        CHECK.badArgument("all wrong on the other side", () -> desk.density(-1, -1, -1));
    }

    private static void densityTellsWhatItWas() {
        CHECK.sentence("Promise 18", "A density becomes v: what it was.");
        FairDesk desk = Desks.ofPeople(6);
        CHECK.same("the last part to the last person at first", desk.density(5, 15, 12), 0);
        CHECK.same("then", desk.density(5, 15, 0), 12);
        CHECK.same("then", desk.density(5, 15, 0), 0);
        CHECK.same("to the one before", desk.density(4, 15, 1), 0);
        CHECK.same("of the part before", desk.density(5, 14, 1), 0);
    }

    private static void howTheCakeIsCutStays() {
        CHECK.sentence("Promise 18", "How the cake is cut stays.");
        for (boolean halves : new boolean[] {false, true}) {
            FairDesk desk = Desks.withCake(Desks.row(1, 1), Desks.row(1, 1));
            pieces("cut", desk, halves, 2, "0/1 to 1/1, 1/1 to 2/1");
            desk.density(0, 0, 12);
            desk.density(1, 0, 0);
            CHECK.same("with other densities", Desks.pieces(desk, 2), "0/1 to 1/1, 1/1 to 2/1");
            CHECK.same("worth what it is now", Desks.taste(desk, 0, 0) + " " + Desks.taste(desk, 1, 0), "12/1 0/1");
            CHECK.badArgument("density(0, 0, 13)", () -> desk.density(0, 0, 13));
            CHECK.badIndex("density(0, 16, 1)", () -> desk.density(0, 16, 1));
            CHECK.same("with densities refused", Desks.pieces(desk, 2), "0/1 to 1/1, 1/1 to 2/1");
            pieces("cut anew", desk, halves, 2, "0/1 to 13/24, 13/24 to 2/1");
        }
    }

    private static void markOfNothing() {
        CHECK.sentence("Terms", "(of 0: that place)");
        for (boolean halves : new boolean[] {false, true}) {
            FairDesk first = Desks.withCake(Desks.row(0, 0), Desks.row(0, 12));
            pieces("worth nothing to the first", first, halves, 2, "0/1 to 0/1, 0/1 to 2/1");
            FairDesk last = Desks.withCake(Desks.row(0, 12), Desks.row(0, 0));
            pieces("worth nothing to the last", last, halves, 2, "0/1 to 2/1, 0/1 to 0/1");
            FairDesk all = Desks.withCake(Desks.rowsAlike(6, 16, 0));
            pieces("worth nothing to anybody", all, halves, 6, "0/1 to 0/1, 0/1 to 0/1, 0/1 to 0/1, 0/1 to 0/1, "
                    + "0/1 to 0/1, 0/1 to 16/1");
        }
    }

    private static void markIsTheLeastPlace() {
        CHECK.sentence("Terms", "the least place up to which the stretch from there is worth that amount at least");
        for (boolean halves : new boolean[] {false, true}) {
            FairDesk gap = Desks.withCake(Desks.row(1, 0, 0, 1), Desks.row(1, 0, 0, 1));
            pieces("not on over what is worth nothing", gap, halves, 2, "0/1 to 1/1, 1/1 to 4/1");
            FairDesk late = Desks.withCake(Desks.row(0, 0, 0, 12), Desks.row(0, 0, 0, 12));
            pieces("over what is worth nothing", late, halves, 2, "0/1 to 7/2, 7/2 to 4/1");
            FairDesk inside = Desks.withCake(Desks.row(12, 1), Desks.row(12, 1));
            pieces("inside a part", inside, halves, 2, "0/1 to 13/24, 13/24 to 2/1");
        }
    }

    private static void leastMarksAsLongAsTwoAreLeft() {
        CHECK.sentence("Terms", "as long as two are left: each who is left has the mark of an n-th of what the whole cake is worth "
                + "to them, from where it goes on");
        pieces("five", eachAnotherPart(5), false, 5, "0/1 to 1/5, 1/5 to 6/5, 6/5 to 11/5, 11/5 to 16/5, 16/5 to 5/1");
        pieces("two", eachAnotherPart(2), false, 2, "0/1 to 1/2, 1/2 to 2/1");
        // An n-th of the whole from where it goes on, not of what is left: 1 gets 4 of its 12.
        FairDesk three = Desks.withCake(Desks.row(12, 0), Desks.row(6, 6), Desks.row(0, 12));
        pieces("three", three, false, 3, "0/1 to 1/3, 1/3 to 1/1, 1/1 to 2/1");
    }

    private static void leastMarksOfSeveral() {
        CHECK.sentence("Terms", "the one whose mark is least (of several the lowest)");
        FairDesk alike = Desks.withCake(Desks.rowsAlike(6, 1, 12));
        pieces("all the same", alike, false, 6, "0/1 to 1/6, 1/6 to 1/3, 1/3 to 1/2, 1/2 to 2/3, 2/3 to 5/6, 5/6 to 1/1");
        FairDesk later = Desks.withCake(Desks.row(0, 1), Desks.row(1, 0), Desks.row(2, 0));
        pieces("1 and 2 the same", later, false, 3, "2/3 to 2/1, 0/1 to 1/3, 1/3 to 2/3");
    }

    private static void leastMarksTheRest() {
        CHECK.sentence("Terms", "The last one gets the rest.");
        pieces("one alone", Desks.withCake(Desks.rowsAlike(1, 16, 12)), false, 1, "0/1 to 16/1");
        pieces("one alone, worth nothing", Desks.withCake(Desks.rowsAlike(1, 16, 0)), false, 1, "0/1 to 16/1");
        FairDesk nothing = Desks.withCake(Desks.row(12, 0, 0), Desks.row(12, 0, 0));
        pieces("with what is worth nothing", nothing, false, 2, "0/1 to 1/2, 1/2 to 3/1");
    }

    private static void halvesOfOneAlone() {
        CHECK.sentence("Terms", "One alone gets it.");
        pieces("one alone", Desks.withCake(Desks.rowsAlike(1, 16, 12)), true, 1, "0/1 to 16/1");
        pieces("one alone, worth nothing", Desks.withCake(Desks.rowsAlike(1, 16, 0)), true, 1, "0/1 to 16/1");
        FairDesk nothing = Desks.withCake(Desks.row(12, 0, 0), Desks.row(12, 0, 0));
        pieces("two, each then alone", nothing, true, 2, "0/1 to 1/2, 1/2 to 3/1");
    }

    private static void halvesOfAnOddNumber() {
        CHECK.sentence("Terms", "Of g people, h being g / 2 cut");
        // Of 12 in its part each has the mark of 2 of 5, then the first two a half, the others a third, and a half.
        pieces("five", eachAnotherPart(5), true, 5, "0/1 to 1/2, 1/2 to 7/5, 7/5 to 7/3, 7/3 to 7/2, 7/2 to 5/1");
        pieces("three", eachAnotherPart(3), true, 3, "0/1 to 1/3, 1/3 to 3/2, 3/2 to 3/1");
    }

    private static void halvesOfAnEvenNumber() {
        CHECK.sentence("Terms", "the first h of them go on with the stretch up to the greatest mark among theirs, the others "
                + "with the rest");
        pieces("four", eachAnotherPart(4), true, 4, "0/1 to 1/2, 1/2 to 3/2, 3/2 to 5/2, 5/2 to 4/1");
        pieces("six", eachAnotherPart(6), true, 6, "0/1 to 1/3, 1/3 to 3/2, 3/2 to 5/2, 5/2 to 10/3, 10/3 to 9/2, 9/2 to 6/1");
    }

    private static void halvesOfTheSameMarks() {
        CHECK.sentence("Terms", "by their marks, of the same the lower number first");
        FairDesk alike = Desks.withCake(Desks.rowsAlike(6, 1, 12));
        pieces("all the same", alike, true, 6, "0/1 to 1/6, 1/6 to 1/3, 1/3 to 1/2, 1/2 to 2/3, 2/3 to 5/6, 5/6 to 1/1");
        FairDesk later = Desks.withCake(Desks.row(0, 1), Desks.row(1, 0), Desks.row(2, 0));
        pieces("1 and 2 the same", later, true, 3, "2/3 to 2/1, 0/1 to 1/3, 1/3 to 2/3");
    }

    private static void cutAnew() {
        CHECK.sentence("Promise 19", "Cuts the cake BY LEAST MARKS, or BY HALVES.");
        FairDesk desk = eachAnotherPart(3);
        pieces("first", desk, false, 3, "0/1 to 1/3, 1/3 to 4/3, 4/3 to 3/1");
        pieces("cut already", desk, true, 3, "0/1 to 1/3, 1/3 to 3/2, 3/2 to 3/1");
        pieces("cut twice already", desk, false, 3, "0/1 to 1/3, 1/3 to 4/3, 4/3 to 3/1");
        desk.cake(1);
        pieces("worth something to the first alone", desk, false, 3, "0/1 to 1/1, 0/1 to 0/1, 0/1 to 0/1");
    }

    private static void pieceOfNoSuchPersonOrWhat() {
        CHECK.sentence("Promise 20", "IndexOutOfBoundsException, when there is no such person, or what");
        FairDesk cut = Desks.withCake(Desks.row(12, 0, 0), Desks.row(12, 0, 0));
        cut.cut(false);
        FairDesk not = Desks.ofPeople(2);
        for (int none : Desks.outside(0, 1)) {
            CHECK.badIndex("piece(" + none + ", 0)", () -> cut.piece(none, 0));
            CHECK.badIndex("piece(" + none + ", 3)", () -> cut.piece(none, 3));
            CHECK.badIndex("not cut: what the document names first", () -> not.piece(none, 0));
        }
        for (int what : Desks.outside(0, 3)) {
            CHECK.badIndex("piece(0, " + what + ")", () -> cut.piece(0, what));
            CHECK.badIndex("piece(1, " + what + ")", () -> cut.piece(1, what));
            CHECK.badIndex("not cut: what the document names first", () -> not.piece(0, what));
        }
        CHECK.same("the least and greatest what", cut.piece(1, 0) + " " + cut.piece(1, 3), "1 1");
    }

    private static void pieceWhenNotCut() {
        CHECK.sentence("Promise 20", "IllegalStateException, when the cake is not cut.");
        FairDesk desk = Desks.withCake(Desks.row(1), Desks.row(1));
        for (int what = 0; what < 4; what++) {
            int part = what;
            CHECK.badState("piece(1, " + what + ")", () -> desk.piece(1, part));
        }
        desk.cut(true);
        CHECK.taken("cut", () -> desk.piece(1, 0));
        desk.people(2);
        CHECK.badState("people started anew", () -> desk.piece(1, 0));
    }

    private static void tasteOfNoSuchPersonOrWhat() {
        CHECK.sentence("Promise 21", "IndexOutOfBoundsException and IllegalStateException likewise.");
        FairDesk cut = Desks.withCake(Desks.row(12, 0, 0), Desks.row(11, 0, 0));
        cut.cut(false);
        FairDesk not = Desks.ofPeople(2);
        for (int none : Desks.outside(0, 1)) {
            CHECK.badIndex("taste(" + none + ", 0, 0)", () -> cut.taste(none, 0, 0));
            CHECK.badIndex("taste(0, " + none + ", 1)", () -> cut.taste(0, none, 1));
            CHECK.badIndex("taste(0, 0, " + none + ")", () -> cut.taste(0, 0, none));
            CHECK.badIndex("taste(1, 1, " + none + ")", () -> cut.taste(1, 1, none));
            CHECK.badIndex("not cut: what the document names first", () -> not.taste(none, 0, 0));
            CHECK.badIndex("not cut: what the document names first", () -> not.taste(0, none, 0));
            CHECK.badIndex("not cut: what the document names first", () -> not.taste(0, 0, none));
        }
        CHECK.same("the least and greatest what", cut.taste(1, 0, 0) + " " + cut.taste(1, 0, 1), "11 2");
    }

    private static void tasteWhenNotCut() {
        CHECK.sentence("Promise 21", "IndexOutOfBoundsException and IllegalStateException likewise.");
        FairDesk desk = Desks.withCake(Desks.row(1), Desks.row(1));
        CHECK.badState("taste(1, 1, 0)", () -> desk.taste(1, 1, 0));
        CHECK.badState("taste(0, 1, 1)", () -> desk.taste(0, 1, 1));
        desk.cut(false);
        CHECK.taken("cut", () -> desk.taste(0, 1, 1));
        desk.people(2);
        CHECK.badState("people started anew", () -> desk.taste(0, 1, 1));
    }

    private static void fractionsInLowestTerms() {
        CHECK.sentence("Terms", "A FRACTION is told in lowest terms, what is above the line (0 above 1 for nothing) and what is "
                + "below it (above 0).");
        FairDesk desk = Desks.withCake(Desks.row(12, 12), Desks.row(12, 12), Desks.row(3, 0), Desks.row(0, 0));
        pieces("24 by 4 of density 12", desk, false, 4, "1/4 to 3/4, 3/4 to 2/1, 0/1 to 1/4, 0/1 to 0/1");
        CHECK.same("whole", Desks.taste(desk, 0, 0), "6/1");
        CHECK.same("3 by 4", Desks.taste(desk, 2, 2), "3/4");
        CHECK.same("6 by 4", Desks.taste(desk, 2, 0), "3/2");
        CHECK.same("of an empty piece", Desks.taste(desk, 0, 3), "0/1");
        CHECK.same("to whom it is worth nothing", Desks.taste(desk, 3, 1), "0/1");
    }

    private static void worthOfTheWholeCake() {
        CHECK.sentence("Promise 21", "What q's piece is worth to p");
        FairDesk one = Desks.withCake(Desks.rowsAlike(1, 16, 12));
        one.cut(true);
        CHECK.same("the most that there is", Desks.taste(one, 0, 0), "192/1");
        FairDesk six = Desks.withCake(Desks.rowsAlike(6, 16, 12));
        for (boolean halves : new boolean[] {false, true}) {
            pieces("six", six, halves, 6, "0/1 to 8/3, 8/3 to 16/3, 16/3 to 8/1, 8/1 to 32/3, 32/3 to 40/3, 40/3 to 16/1");
            CHECK.same("a sixth of it", Desks.taste(six, 5, 0) + " " + Desks.taste(six, 0, 5), "32/1 32/1");
        }
    }
}
