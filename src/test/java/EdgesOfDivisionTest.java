/** The edges of promises 5, 6, 7 and 12, and of IN TURNS, BY CIRCLES and BY PRODUCT. */
final class EdgesOfDivisionTest {
    /** Of 1 to 6 people: how many items they have at the most when n to the m-th is at most 65536. */
    private static final int[] MOST_ITEMS = {12, 12, 10, 8, 6, 6};
    private static final Check CHECK = new Check("EdgesOfDivisionTest");

    public static void main(String[] args) {
        picksFromNoPerson();
        turnsBehindTheLastOne();
        turnsPutAllBack();
        turnsAsLongAsThereAreItems();
        turnsOfSeveralTheLowest();
        circlesPutAllBack();
        circlesGiveToTheLowest();
        circlesAsLongAsThereIsNone();
        circleOfTheLowestWhoEnvies();
        circleFromThatOneOn();
        circleAllAtOnce();
        circlesWhenNothingIsToDivide();
        productUpToItsLimit();
        productBeyondItsLimit();
        productOfTheMostPeople();
        productOfSeveral();
        productOfNothing();
        productAtItsGreatest();
        productOnceMore();
        guaranteeOfAllIntoBundles();
        guaranteeUpToItsLimit();
        guaranteeOfNoSuchPerson();
        guaranteeBeyondItsLimit();
        CHECK.end();
    }

    private static void holders(String what, FairDesk desk, String want) {
        int m = want.isEmpty() ? 0 : want.split(" ").length;
        CHECK.same(what + ": holders", Desks.holders(desk, m), want);
    }

    private static void circles(String what, FairDesk desk, int turned, String want) {
        CHECK.same(what + ": circles()", desk.circles(), turned);
        holders(what, desk, want);
    }

    private static void product(String what, FairDesk desk, long product, String want) {
        CHECK.same(what + ": product()", desk.product(), product);
        holders(what, desk, want);
    }

    private static void picksFromNoPerson() {
        CHECK.sentence("Promise 5", "IndexOutOfBoundsException, when first is no person.");
        FairDesk desk = Desks.withGoods(Desks.rowsAlike(3, 4, 1));
        desk.give(2, 2);
        for (int none : Desks.outside(0, 2)) {
            CHECK.badIndex("picks(" + none + ")", () -> desk.picks(none));
        }
        holders("when it was refused", desk, "-1 -1 2 -1");
    }

    private static void turnsBehindTheLastOne() {
        CHECK.sentence("Terms", "the numbers rising, behind the last one the first again");
        FairDesk desk = Desks.withGoods(Desks.rowsAlike(3, 7, 1));
        desk.picks(0);
        holders("from the first one", desk, "0 1 2 0 1 2 0");
        desk.picks(1);
        holders("from the middle one", desk, "1 2 0 1 2 0 1");
        desk.picks(2);
        holders("from the last one", desk, "2 0 1 2 0 1 2");
        FairDesk one = Desks.withGoods(Desks.rowsAlike(1, 3, 1));
        one.picks(0);
        holders("one alone", one, "0 0 0");
        FairDesk six = Desks.withGoods(Desks.rowsAlike(6, 12, 1));
        six.picks(5);
        holders("six from the last one", six, "5 0 1 2 3 4 5 0 1 2 3 4");
    }

    private static void turnsPutAllBack() {
        CHECK.sentence("Terms", "the numbers rising, behind the last one the first again: all items are put back");
        FairDesk desk = Desks.withGoods(Desks.rowsAlike(2, 3, 1));
        desk.give(0, 1);
        desk.give(2, 1);
        desk.picks(0);
        holders("held before", desk, "0 1 0");
    }

    private static void turnsAsLongAsThereAreItems() {
        CHECK.sentence("Terms", "whose turn it is takes, as long as there are items");
        FairDesk none = Desks.ofPeople(6);
        CHECK.taken("no items", () -> none.picks(5));
        FairDesk few = Desks.withGoods(Desks.rowsAlike(6, 2, 1));
        few.picks(5);
        holders("fewer items than people", few, "5 0");
        CHECK.same("nothing for those behind", few.worth(1, 1), 0);
        FairDesk worthless = Desks.withGoods(Desks.rowsAlike(2, 3, 0));
        worthless.picks(1);
        holders("what is worth nothing is taken too", worthless, "1 0 1");
    }

    private static void turnsOfSeveralTheLowest() {
        CHECK.sentence("Terms", "of those left that of the greatest value to them, of several the lowest");
        FairDesk desk = Desks.withGoods(Desks.row(0, 1000, 999, 1000), Desks.row(1, 0, 2, 2));
        desk.picks(0);
        holders("the greatest two times", desk, "1 0 1 0");
        desk.picks(1);
        holders("from the other one on", desk, "0 0 1 1");
        FairDesk left = Desks.withGoods(Desks.row(5, 4, 4, 0), Desks.row(5, 0, 0, 4));
        left.picks(0);
        holders("the greatest is gone", left, "0 0 1 1");
    }

    private static void circlesPutAllBack() {
        CHECK.sentence("Terms", "BY CIRCLES: all items are put back");
        FairDesk desk = Desks.withGoods(Desks.row(1, 1), Desks.row(1, 1));
        desk.give(0, 1);
        desk.give(1, 1);
        circles("held before", desk, 0, "0 1");
        circles("once more", desk, 0, "0 1");
    }

    private static void circlesGiveToTheLowest() {
        CHECK.sentence("Terms", "each item, in rising order, is given to the lowest person whom nobody envies");
        circles("nobody is envied", Desks.withGoods(Desks.rowsAlike(3, 3, 0)), 0, "0 0 0");
        circles("each one is envied with an item", Desks.withGoods(Desks.rowsAlike(6, 12, 1)), 0,
                "0 1 2 3 4 5 0 1 2 3 4 5");
        // What is worth the same is not envied: 0 gets item 3 too.
        circles("worth the same", Desks.withGoods(Desks.row(2, 1, 1, 1), Desks.row(2, 1, 1, 1)), 0, "0 1 1 0");
    }

    private static void circlesAsLongAsThereIsNone() {
        CHECK.sentence("Terms", "As long as there is none such, before, a circle is turned");
        // 0 and 1 change shares, but 2 still envies them both; then 2 and 3 change, and item 4 is given.
        int[][] rows = {{1, 5, 0, 0, 1}, {5, 1, 0, 0, 1}, {2, 2, 1, 5, 1}, {0, 0, 5, 1, 1}};
        circles("two circles before one item", Desks.withGoods(rows), 2, "1 0 3 2 0");
        circles("before, not behind the last item", Desks.withGoods(Desks.row(1, 5), Desks.row(5, 1)), 0, "0 1");
        circles("before the next item", Desks.withGoods(Desks.row(1, 5, 0), Desks.row(5, 1, 0)), 1, "1 0 0");
    }

    private static void circleOfTheLowestWhoEnvies() {
        CHECK.sentence("Terms", "going from person 0 on, each time to the lowest person who envies the one where one stands");
        // 1 and 2 envy 0: by 1 the circle is 0 and 1, by 2 it would be all three.
        FairDesk desk = Desks.withGoods(Desks.row(1, 5, 0, 0), Desks.row(5, 1, 3, 0), Desks.row(5, 0, 1, 0));
        circles("two envy person 0", desk, 1, "1 0 2 0");
        // 0 and 2 envy each other, 1 and 3 do so too: only those change shares that one comes to from 0.
        int[][] rows = {{1, 0, 5, 0, 0}, {0, 1, 0, 5, 0}, {5, 0, 1, 0, 0}, {0, 5, 0, 1, 0}};
        circles("from person 0 on", Desks.withGoods(rows), 1, "2 1 0 3 0");
    }

    private static void circleFromThatOneOn() {
        CHECK.sentence("Terms", "until one comes to a person for the second time; all from that one on are the circle");
        // From 0 one goes to 1, then to 2 and back to 1: 0 keeps its share.
        FairDesk tail = Desks.withGoods(Desks.row(9, 0, 0, 1), Desks.row(9, 1, 9, 1), Desks.row(0, 9, 1, 1));
        circles("0 is not on it", tail, 1, "0 2 1 0");
    }

    private static void circleAllAtOnce() {
        CHECK.sentence("Terms", "each of them gets the share of that one whom they envy there (the one gone from to them), all at once");
        int[][] rows = new int[6][7];
        for (int p = 0; p < 6; p++) {
            rows[p][p] = 1;
            rows[p][(p + 5) % 6] = 5;
        }
        circles("all six, each gets what the one before had", Desks.withGoods(rows), 1, "1 2 3 4 5 0 0");
        // The circle is turned before item 2; of twelve items ten are nobody's then.
        int[][] two = new int[2][12];
        two[0][0] = 1;
        two[0][1] = 5;
        two[1][0] = 5;
        two[1][1] = 1;
        circles("twelve items", Desks.withGoods(two), 1, "1 0 0 0 0 0 0 0 0 0 0 0");
    }

    private static void circlesWhenNothingIsToDivide() {
        CHECK.sentence("Promise 6", "Divides the goods BY CIRCLES: how many circles were turned.");
        CHECK.same("no items", Desks.ofPeople(6).circles(), 0);
        circles("one alone", Desks.withGoods(Desks.rowsAlike(1, 12, 1000)), 0, "0 0 0 0 0 0 0 0 0 0 0 0");
        FairDesk many = Desks.withGoods(Desks.rowsAlike(6, 12, 1000));
        CHECK.taken("more ways than 65536", () -> many.circles());
    }

    private static void productUpToItsLimit() {
        CHECK.sentence("Terms", "BY PRODUCT, when n to the m-th is at most 65536");
        String[] holders = {"0 0 0 0 0 0 0 0 0 0 0 0", "0 0 0 0 0 0 1 1 1 1 1 1", "0 0 0 0 1 1 1 2 2 2",
            "0 0 1 1 2 2 3 3", "0 0 1 2 3 4", "0 1 2 3 4 5"};
        long[] products = {12, 36, 36, 16, 2, 1};
        for (int n = 1; n <= 6; n++) {
            FairDesk desk = Desks.withGoods(Desks.rowsAlike(n, MOST_ITEMS[n - 1], 1));
            product(n + " people", desk, products[n - 1], holders[n - 1]);
        }
    }

    private static void productBeyondItsLimit() {
        CHECK.sentence("Promise 7", "IllegalStateException, when n to the m-th is above 65536.");
        for (int n = 3; n <= 6; n++) {
            for (int m = MOST_ITEMS[n - 1] + 1; m <= 12; m++) {
                FairDesk desk = Desks.withGoods(Desks.rowsAlike(n, m, 1));
                desk.give(0, 1);
                desk.give(m - 1, 2);
                CHECK.badState(n + " people, " + m + " items", () -> desk.product());
                CHECK.same("who holds the first one when it was refused", desk.holder(0), 1);
                CHECK.same("the second", desk.holder(1), FairDesk.NONE);
                CHECK.same("the last one", desk.holder(m - 1), 2);
            }
        }
    }

    private static void productOfTheMostPeople() {
        CHECK.sentence("Terms", "that in which the most people have shares that are worth something to them");
        product("1 times 1 before 1000 alone", Desks.withGoods(Desks.row(1000, 1), Desks.row(1, 0)), 1, "1 0");
        product("who values nothing does not count", Desks.withGoods(Desks.row(0, 0), Desks.row(1, 2)), 3, "1 1");
        product("fewer items than people", Desks.withGoods(Desks.row(0), Desks.row(3), Desks.row(4)), 4, "2");
    }

    private static void productOfSeveral() {
        CHECK.sentence("Terms", "of several, that in which the lowest item whose holders differ has the lower one");
        product("all alike", Desks.withGoods(Desks.rowsAlike(2, 2, 1000)), 1000000, "0 1");
        product("one item", Desks.withGoods(Desks.rowsAlike(6, 1, 1)), 1, "0");
        product("what is worth nothing to anybody", Desks.withGoods(Desks.row(0, 5, 0), Desks.row(0, 5, 5)), 25, "0 0 1");
        product("worth nothing to the lower one", Desks.withGoods(Desks.row(0, 2), Desks.row(1, 0)), 2, "1 0");
    }

    private static void productOfNothing() {
        CHECK.sentence("Promise 7", "1 when no share is worth anything to its holder");
        product("no items", Desks.ofPeople(6), 1, "");
        product("no values", Desks.withGoods(Desks.rowsAlike(4, 8, 0)), 1, "0 0 0 0 0 0 0 0");
        product("one alone", Desks.withGoods(Desks.row(0)), 1, "0");
    }

    private static void productAtItsGreatest() {
        CHECK.sentence("Promise 7", "Divides the goods BY PRODUCT: that product");
        product("six", Desks.withGoods(Desks.rowsAlike(6, 6, 1000)), 1000000000000000000L, "0 1 2 3 4 5");
        int[][] lastWay = Desks.rowsAlike(6, 6, 999);
        for (int p = 0; p < 6; p++) {
            lastWay[p][5 - p] = 1000;
        }
        product("six, at the last way only", Desks.withGoods(lastWay), 1000000000000000000L, "5 4 3 2 1 0");
        lastWay[0][5] = 999;
        product("six, a little less", Desks.withGoods(lastWay), 999000000000000000L, "5 4 3 2 1 0");
        product("five", Desks.withGoods(Desks.rowsAlike(5, 6, 1000)), 2000000000000000L, "0 0 1 2 3 4");
        product("one", Desks.withGoods(Desks.rowsAlike(1, 12, 1000)), 12000, "0 0 0 0 0 0 0 0 0 0 0 0");
        FairDesk held = Desks.withGoods(Desks.row(3, 0), Desks.row(0, 3));
        held.give(0, 1);
        held.give(1, 0);
        product("whoever held it before", held, 9, "0 1");
    }

    private static void productOnceMore() {
        CHECK.sentence("Terms", "of all ways to give each item to a person");
        FairDesk desk = Desks.withGoods(Desks.row(9, 8, 7), Desks.row(9, 8, 7));
        product("three items", desk, 135, "0 1 1");
        desk.picks(1);
        product("after another division", desk, 135, "0 1 1");
        desk.items(2);
        product("the last one is gone", desk, 72, "0 1");
        desk.value(0, 0, 0);
        desk.value(0, 1, 0);
        product("one has lost all values", desk, 17, "1 1");
        desk.items(3);
        product("a new one of no value", desk, 17, "1 1 0");
    }

    private static void guaranteeOfAllIntoBundles() {
        CHECK.sentence("Promise 12", "Of all ways to put all items into n bundles");
        CHECK.same("no items", Desks.ofPeople(6).guarantee(5), 0);
        CHECK.same("fewer items than people", Desks.withGoods(Desks.rowsAlike(6, 5, 1000)).guarantee(0), 0);
        CHECK.same("as many as people", Desks.withGoods(Desks.rowsAlike(6, 6, 1000)).guarantee(5), 1000);
        CHECK.same("one alone", Desks.withGoods(Desks.rowsAlike(1, 12, 1000)).guarantee(0), 12000);
        FairDesk desk = Desks.withGoods(Desks.row(3, 3, 2, 2, 2), Desks.row(9, 1, 0, 0, 0));
        desk.give(0, 1);
        CHECK.same("3 and 3, 2 and 2 and 2", desk.guarantee(0), 6);
        CHECK.same("to another", desk.guarantee(1), 1);
        holders("as before", desk, "1 -1 -1 -1 -1");
    }

    private static void guaranteeUpToItsLimit() {
        CHECK.sentence("Promise 12", "the greatest that the bundle which is worth least to p can be worth");
        int[] due = {12000, 6000, 3000, 2000, 1000, 1000};
        for (int n = 1; n <= 6; n++) {
            FairDesk desk = Desks.withGoods(Desks.rowsAlike(n, MOST_ITEMS[n - 1], 1000));
            CHECK.same(n + " people", desk.guarantee(n - 1), due[n - 1]);
        }
    }

    private static void guaranteeOfNoSuchPerson() {
        CHECK.sentence("Promise 12", "IndexOutOfBoundsException, when there is no such person;");
        FairDesk few = Desks.withGoods(Desks.rowsAlike(4, 8, 1));
        FairDesk many = Desks.withGoods(Desks.rowsAlike(4, 9, 1));
        for (int none : Desks.outside(0, 3)) {
            CHECK.badIndex("guarantee(" + none + ")", () -> few.guarantee(none));
            CHECK.badIndex("with too many ways: what the document names first", () -> many.guarantee(none));
        }
    }

    private static void guaranteeBeyondItsLimit() {
        CHECK.sentence("Promise 12", "IllegalStateException, when n to the m-th is above 65536.");
        for (int n = 3; n <= 6; n++) {
            for (int m = MOST_ITEMS[n - 1] + 1; m <= 12; m++) {
                FairDesk desk = Desks.withGoods(Desks.rowsAlike(n, m, 1));
                CHECK.badState(n + " people, " + m + " items", () -> desk.guarantee(0));
                desk.items(MOST_ITEMS[n - 1]);
                CHECK.same("fewer again", desk.guarantee(0), MOST_ITEMS[n - 1] / n);
            }
        }
    }
}
