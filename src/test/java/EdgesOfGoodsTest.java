/** The edges of promises 3, 4 and 8 to 11, and of GOODS, SHARE and ENVIES. */
final class EdgesOfGoodsTest {
    private static final Check CHECK = new Check("EdgesOfGoodsTest");
    private static final String TWELVE_NOBODYS = "-1 -1 -1 -1 -1 -1 -1 -1 -1 -1 -1 -1";

    public static void main(String[] args) {
        itemsAreNoneToTwelve();
        lastItemAndFirstThatIsNone();
        itemsKeepTheirValues();
        itemsThatAreNewOrWentBefore();
        itemsThatNobodyHolds();
        valuesAreNothingToThousand();
        valueToNoSuchPersonOrOfNoSuchItem();
        valueTellsWhatItWas();
        giveTellsWhoHeldIt();
        giveToNoSuchPersonOrOfNoSuchItem();
        holderOrNone();
        worthOfNothingAndOfAll();
        worthToNoSuchPerson();
        envyIfAndIfNot();
        envyWithDrop();
        envyOfNoSuchPerson();
        CHECK.end();
    }

    private static void itemsAreNoneToTwelve() {
        CHECK.sentence("Promise 3", "IllegalArgumentException, when m is not 0 .. 12.");
        FairDesk desk = Desks.ofPeople(2);
        CHECK.taken("items(0)", () -> desk.items(0));
        CHECK.taken("items(12)", () -> desk.items(12));
        desk.value(1, 11, 9);
        desk.give(11, 1);
        for (int m : Desks.outside(0, 12)) {
            CHECK.badArgument("items(" + m + ")", () -> desk.items(m));
        }
        CHECK.same("what is held when it was refused", desk.worth(1, 1), 9);
    }

    private static void lastItemAndFirstThatIsNone() {
        CHECK.sentence("Terms", "items 0 .. m - 1");
        for (int m = 0; m <= 12; m++) {
            FairDesk desk = new FairDesk();
            desk.items(12);
            desk.items(m);
            if (m > 0) {
                noteItem(desk, m, 0, "");
                noteItem(desk, m, m - 1, "");
            }
            for (int item : Desks.outside(0, m - 1)) {
                noteItem(desk, m, item, "value give holder ");
            }
        }
    }

    private static void noteItem(FairDesk desk, int m, int item, String refused) {
        String names = "";
        names += Check.thrownBy(() -> desk.value(0, item, 1)).equals("IndexOutOfBoundsException") ? "value " : "";
        names += Check.thrownBy(() -> desk.give(item, 0)).equals("IndexOutOfBoundsException") ? "give " : "";
        names += Check.thrownBy(() -> desk.holder(item)).equals("IndexOutOfBoundsException") ? "holder " : "";
        CHECK.same("of " + m + " items, item " + item + " is unknown to", names, refused);
    }

    private static void itemsKeepTheirValues() {
        CHECK.sentence("Promise 3", "There are m items, of the values that they had");
        FairDesk desk = Desks.withGoods(Desks.row(1, 2, 3), Desks.row(4, 5, 1000));
        desk.items(3);
        CHECK.same("as many as before: the last one", desk.value(1, 2, 1000), 1000);
        desk.items(12);
        CHECK.same("more: the last one that was", desk.value(1, 2, 1000), 1000);
        desk.items(1);
        CHECK.same("fewer: the last one that stays", desk.value(1, 0, 4), 4);
        CHECK.same("fewer: to the other", desk.value(0, 0, 1), 1);
    }

    private static void itemsThatAreNewOrWentBefore() {
        CHECK.sentence("Promise 3", "new ones 0, also those that went before");
        FairDesk desk = Desks.withGoods(Desks.row(1, 2, 3), Desks.row(4, 5, 6));
        desk.items(2);
        desk.items(4);
        for (int p = 0; p < 2; p++) {
            CHECK.same("one that stayed, to " + p, desk.value(p, 1, 7), 2 + 3 * p);
            CHECK.same("the first one that went, to " + p, desk.value(p, 2, 7), 0);
            CHECK.same("a new one, to " + p, desk.value(p, 3, 7), 0);
        }
        desk.items(0);
        desk.items(12);
        for (int item = 0; item < 12; item++) {
            CHECK.same("all went: item " + item, desk.value(0, item, 1), 0);
            CHECK.same("all went: item " + item + " to the other", desk.value(1, item, 1), 0);
        }
    }

    private static void itemsThatNobodyHolds() {
        CHECK.sentence("Promise 3", "which nobody holds");
        FairDesk desk = Desks.withGoods(Desks.rowsAlike(2, 12, 5));
        desk.picks(1);
        desk.items(12);
        CHECK.same("as many as before", Desks.holders(desk, 12), TWELVE_NOBODYS);
        CHECK.same("a share", desk.worth(0, 0), 0);
        desk.picks(1);
        desk.items(3);
        CHECK.same("fewer", Desks.holders(desk, 3), "-1 -1 -1");
        desk.picks(1);
        desk.items(12);
        CHECK.same("more", Desks.holders(desk, 12), TWELVE_NOBODYS);
    }

    private static void valuesAreNothingToThousand() {
        CHECK.sentence("Promise 4", "IllegalArgumentException, when v is not 0 .. 1000");
        FairDesk desk = Desks.withGoods(Desks.row(7, 8), Desks.row(9, 10));
        for (int v : Desks.outside(0, 1000)) {
            CHECK.badArgument("value(1, 1, " + v + ")", () -> desk.value(1, 1, v));
        }
        CHECK.same("what it is when it was refused", desk.value(1, 1, 0), 10);
        CHECK.same("the least is taken", desk.value(1, 1, 1000), 0);
        CHECK.same("the greatest is taken", desk.value(1, 1, 1), 1000);
    }

    private static void valueToNoSuchPersonOrOfNoSuchItem() {
        CHECK.sentence("Promise 4", "IndexOutOfBoundsException, when there is no such person or item.");
        FairDesk desk = Desks.withGoods(Desks.row(7, 8), Desks.row(9, 10));
        for (int none : Desks.outside(0, 1)) {
            CHECK.badIndex("value(" + none + ", 0, 1)", () -> desk.value(none, 0, 1));
            CHECK.badIndex("value(0, " + none + ", 1)", () -> desk.value(0, none, 1));
            CHECK.badIndex("value(" + none + ", " + none + ", 1)", () -> desk.value(none, none, 1));
        }
        CHECK.same("what they are when it was refused", desk.value(0, 0, 7) + " " + desk.value(0, 1, 8) + " "
                + desk.value(1, 0, 9) + " " + desk.value(1, 1, 10), "7 8 9 10");
        CHECK.badArgument("all wrong: what the document names first", () -> desk.value(2, 2, 1001));
        CHECK.badArgument("all wrong on the other side", () -> desk.value(-1, -1, -1));
    }

    private static void valueTellsWhatItWas() {
        CHECK.sentence("Promise 4", "An item's value to p becomes v: what it was.");
        FairDesk desk = Desks.ofPeople(6);
        desk.items(12);
        CHECK.same("the last item to the last person at first", desk.value(5, 11, 1000), 0);
        CHECK.same("then", desk.value(5, 11, 0), 1000);
        CHECK.same("then", desk.value(5, 11, 0), 0);
        CHECK.same("to the one before", desk.value(4, 11, 1), 0);
        CHECK.same("of the item before", desk.value(5, 10, 1), 0);
    }

    private static void giveTellsWhoHeldIt() {
        CHECK.sentence("Promise 8", "An item is given to p, or to NONE: who held it.");
        FairDesk desk = Desks.ofPeople(6);
        desk.items(12);
        CHECK.same("nobody's to nobody", desk.give(11, FairDesk.NONE), FairDesk.NONE);
        CHECK.same("nobody's to the last person", desk.give(11, 5), FairDesk.NONE);
        CHECK.same("to the one who has it", desk.give(11, 5), 5);
        CHECK.same("to the first person", desk.give(11, 0), 5);
        CHECK.same("to nobody", desk.give(11, FairDesk.NONE), 0);
        CHECK.same("nobody's again", Desks.holders(desk, 12), TWELVE_NOBODYS);
    }

    private static void giveToNoSuchPersonOrOfNoSuchItem() {
        CHECK.sentence("Promise 8", "IndexOutOfBoundsException, when there is no such person (nor NONE) or item.");
        FairDesk desk = Desks.ofPeople(2);
        desk.items(2);
        desk.give(0, 0);
        desk.give(1, 1);
        for (int none : Desks.outside(FairDesk.NONE, 1)) {
            CHECK.badIndex("give(0, " + none + ")", () -> desk.give(0, none));
        }
        for (int none : Desks.outside(0, 1)) {
            CHECK.badIndex("give(" + none + ", 0)", () -> desk.give(none, 0));
            CHECK.badIndex("give(" + none + ", NONE)", () -> desk.give(none, FairDesk.NONE));
        }
        CHECK.same("who holds them when it was refused", Desks.holders(desk, 2), "0 1");
    }

    private static void holderOrNone() {
        CHECK.sentence("Promise 9", "Who holds an item, or NONE. IndexOutOfBoundsException, when there is no such item.");
        FairDesk desk = Desks.ofPeople(2);
        desk.items(2);
        desk.give(1, 1);
        CHECK.same("nobody's", desk.holder(0), FairDesk.NONE);
        CHECK.same("held", desk.holder(1), 1);
        for (int none : Desks.outside(0, 1)) {
            CHECK.badIndex("holder(" + none + ")", () -> desk.holder(none));
        }
        CHECK.same("when it was refused", Desks.holders(desk, 2), "-1 1");
    }

    private static void worthOfNothingAndOfAll() {
        CHECK.sentence("Terms", "it is WORTH to somebody the sum of its items' values to them");
        FairDesk desk = Desks.withGoods(Desks.rowsAlike(2, 12, 1000));
        CHECK.same("an empty share", desk.worth(0, 1), 0);
        desk.give(11, 1);
        CHECK.same("one item", desk.worth(0, 1), 1000);
        for (int item = 0; item < 12; item++) {
            desk.give(item, 1);
        }
        CHECK.same("all items of the greatest value", desk.worth(0, 1), 12000);
        CHECK.same("to their holder", desk.worth(1, 1), 12000);
        CHECK.same("nothing is left", desk.worth(1, 0), 0);
        CHECK.same("nor to oneself", desk.worth(0, 0), 0);
    }

    private static void worthToNoSuchPerson() {
        CHECK.sentence("Promise 10", "What q's share is worth to p. IndexOutOfBoundsException, when there is no such person.");
        FairDesk desk = Desks.withGoods(Desks.row(7, 8), Desks.row(9, 10));
        for (int none : Desks.outside(0, 1)) {
            CHECK.badIndex("worth(" + none + ", 0)", () -> desk.worth(none, 0));
            CHECK.badIndex("worth(0, " + none + ")", () -> desk.worth(0, none));
            CHECK.badIndex("worth(" + none + ", " + none + ")", () -> desk.worth(none, none));
        }
        CHECK.same("what nobody holds is in no share", desk.worth(0, 0) + desk.worth(0, 1), 0);
    }

    private static void envyIfAndIfNot() {
        CHECK.sentence("Promise 11", "By how much p envies q; 0 if not.");
        FairDesk desk = Desks.withGoods(Desks.row(5, 5, 1), Desks.row(1000, 999, 0));
        CHECK.same("nobody holds anything", desk.envy(0, 1, false), 0);
        desk.give(0, 0);
        desk.give(1, 1);
        CHECK.same("worth the same", desk.envy(0, 1, false), 0);
        CHECK.same("worth one more", desk.envy(1, 0, false), 1);
        desk.give(2, 1);
        CHECK.same("worth one more to the other", desk.envy(0, 1, false), 1);
        CHECK.same("no more by what is worth nothing", desk.envy(1, 0, false), 1);
        CHECK.same("oneself", desk.envy(1, 1, false), 0);
        FairDesk all = Desks.withGoods(Desks.rowsAlike(2, 12, 1000));
        for (int item = 0; item < 12; item++) {
            all.give(item, 1);
        }
        CHECK.same("the greatest", all.envy(0, 1, false), 12000);
        CHECK.same("not below 0", all.envy(1, 0, false), 0);
    }

    private static void envyWithDrop() {
        CHECK.sentence("Promise 11", "With drop, as if q did not have that item which is of the greatest value to p among q's.");
        FairDesk desk = Desks.withGoods(Desks.row(3, 8, 8, 2), Desks.row(9, 0, 0, 0));
        CHECK.same("q holds nothing", desk.envy(0, 1, true), 0);
        desk.give(1, 1);
        CHECK.same("q holds one item", desk.envy(0, 1, true), 0);
        desk.give(0, 1);
        CHECK.same("the greatest to p, not to q", desk.envy(0, 1, true), 3);
        desk.give(2, 1);
        CHECK.same("of several only one", desk.envy(0, 1, true), 11);
        desk.give(3, 0);
        CHECK.same("less one's own", desk.envy(0, 1, true), 9);
        CHECK.same("0 if not", desk.envy(1, 0, true), 0);
        CHECK.same("oneself", desk.envy(1, 1, true), 0);
        CHECK.same("nothing was taken away", Desks.holders(desk, 4), "1 1 1 0");
        FairDesk all = Desks.withGoods(Desks.rowsAlike(2, 12, 1000));
        for (int item = 0; item < 12; item++) {
            all.give(item, 1);
        }
        CHECK.same("of all items one", all.envy(0, 1, true), 11000);
        FairDesk ends = Desks.withGoods(Desks.row(9, 1, 2), Desks.row(0, 0, 0));
        ends.give(0, 1);
        ends.give(1, 1);
        CHECK.same("the first item", ends.envy(0, 1, true), 1);
        ends.give(0, FairDesk.NONE);
        ends.give(2, 1);
        CHECK.same("the last item", ends.envy(0, 1, true), 1);
    }

    private static void envyOfNoSuchPerson() {
        CHECK.sentence("Promise 11", "IndexOutOfBoundsException likewise.");
        FairDesk desk = Desks.withGoods(Desks.row(7, 8), Desks.row(9, 10));
        desk.give(0, 1);
        for (boolean drop : new boolean[] {false, true}) {
            for (int none : Desks.outside(0, 1)) {
                CHECK.badIndex("envy(" + none + ", 0, " + drop + ")", () -> desk.envy(none, 0, drop));
                CHECK.badIndex("envy(0, " + none + ", " + drop + ")", () -> desk.envy(0, none, drop));
                CHECK.badIndex("envy(" + none + ", " + none + ", " + drop + ")", () -> desk.envy(none, none, drop));
            }
        }
        CHECK.same("envy when it was refused", desk.envy(0, 1, false), 7);
    }
}
