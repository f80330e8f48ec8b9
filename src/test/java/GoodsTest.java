/** Promises 2 to 12: the people and the goods. */
final class GoodsTest {
    private static final Check CHECK = new Check("GoodsTest");

    public static void main(String[] args) {
        people();
        peopleStartsAllAnew();
        items();
        value();
        picks();
        circles();
        circlesTurned();
        circleBehindATail();
        product();
        productOfMostPeople();
        productsLimit();
        giveAndHolder();
        worthAndEnvy();
        guarantee();
        CHECK.end();
    }

    /** As many people as rows, and as many items as each row has values. */
    private static FairDesk desk(int[]... rows) {
        FairDesk desk = new FairDesk();
        desk.people(rows.length);
        desk.items(rows[0].length);
        for (int p = 0; p < rows.length; p++) {
            for (int item = 0; item < rows[p].length; item++) {
                desk.value(p, item, rows[p][item]);
            }
        }
        return desk;
    }

    private static int[] row(int... values) {
        return values;
    }

    private static FairDesk alike(int n, int m, int v) {
        int[][] rows = new int[n][m];
        for (int[] row : rows) {
            java.util.Arrays.fill(row, v);
        }
        return desk(rows);
    }

    private static void holders(String what, FairDesk desk, int... want) {
        for (int item = 0; item < want.length; item++) {
            CHECK.same(what + ": holder(" + item + ")", desk.holder(item), want[item]);
        }
    }

    private static void people() {
        FairDesk desk = new FairDesk();
        desk.people(6);
        CHECK.same("six people: worth(5, 5)", desk.worth(5, 5), 0);
        CHECK.badIndex("six people: worth(6, 0)", () -> desk.worth(6, 0));
        CHECK.badIndex("six people: worth(0, -1)", () -> desk.worth(0, -1));
        for (int n : new int[] {0, 7, -1, Integer.MIN_VALUE, Integer.MAX_VALUE}) {
            CHECK.badArgument("people(" + n + ")", () -> desk.people(n));
        }
        CHECK.same("still six people: worth(5, 5)", desk.worth(5, 5), 0);
        desk.people(1);
        CHECK.same("one person: worth(0, 0)", desk.worth(0, 0), 0);
        CHECK.badIndex("one person: worth(1, 1)", () -> desk.worth(1, 1));
    }

    private static void peopleStartsAllAnew() {
        FairDesk desk = alike(2, 3, 7);
        desk.total(10);
        for (int p = 0; p < 2; p++) {
            desk.room(p, 0, 10);
            desk.density(p, 3, 5);
        }
        desk.cake(4);
        desk.rooms();
        desk.cut(true);
        CHECK.badArgument("people(7)", () -> desk.people(7));
        CHECK.same("as before: rent(0, 0)", desk.rent(0, 0), 0);
        CHECK.same("as before: holder(2)", desk.holder(2), FairDesk.NONE);
        desk.people(2);
        CHECK.badIndex("no items: holder(0)", () -> desk.holder(0));
        CHECK.badState("rooms not divided", () -> desk.rent(0, 0));
        CHECK.badState("cake not cut", () -> desk.piece(0, 0));
        CHECK.same("the room's value before", desk.room(0, 0, 0), 0);
        CHECK.same("the total before", desk.total(0), 0);
        CHECK.same("the density before", desk.density(1, 3, 0), 0);
        desk.cut(false);
        CHECK.same("the cake's length", desk.piece(1, 2), 1);
        desk.items(3);
        CHECK.same("the value before", desk.value(1, 2, 4), 0);
    }

    private static void items() {
        FairDesk desk = desk(row(1, 2, 3), row(4, 5, 6));
        desk.picks(0);
        desk.items(3);
        holders("put back", desk, -1, -1, -1);
        CHECK.same("a value that stays", desk.value(1, 2, 6), 6);
        desk.items(2);
        CHECK.badIndex("two items: holder(2)", () -> desk.holder(2));
        desk.give(0, 1);
        desk.items(12);
        holders("nobody holds them", desk, -1, -1, -1, -1, -1, -1, -1, -1, -1, -1, -1, -1);
        CHECK.same("a value that stayed", desk.value(1, 1, 5), 5);
        CHECK.same("a value that went", desk.value(1, 2, 0), 0);
        CHECK.same("a new value", desk.value(0, 11, 9), 0);
        for (int m : new int[] {-1, 13, Integer.MIN_VALUE, Integer.MAX_VALUE}) {
            CHECK.badArgument("items(" + m + ")", () -> desk.items(m));
        }
        CHECK.same("still twelve items", desk.value(0, 11, 9), 9);
        desk.items(0);
        CHECK.badIndex("no items: holder(0)", () -> desk.holder(0));
    }

    private static void value() {
        FairDesk desk = alike(2, 2, 0);
        CHECK.same("at first", desk.value(1, 1, 1000), 0);
        CHECK.same("the greatest", desk.value(1, 1, 0), 1000);
        CHECK.same("the least", desk.value(1, 1, 5), 0);
        CHECK.same("another person's", desk.value(0, 1, 0), 0);
        CHECK.same("another item's", desk.value(1, 0, 0), 0);
        CHECK.badArgument("value -1", () -> desk.value(0, 0, -1));
        CHECK.badArgument("value 1001", () -> desk.value(0, 0, 1001));
        CHECK.badIndex("no such person", () -> desk.value(2, 0, 1));
        CHECK.badIndex("person -1", () -> desk.value(-1, 0, 1));
        CHECK.badIndex("no such item", () -> desk.value(0, 2, 1));
        CHECK.badIndex("item -1", () -> desk.value(0, -1, 1));
        CHECK.badArgument("both wrong: the first that the document names", () -> desk.value(2, 2, 1001));
        CHECK.same("nothing changed", desk.value(0, 0, 0), 0);
        desk.give(1, 1);
        desk.value(1, 1, 8);
        CHECK.same("what is held is worth its new value", desk.worth(1, 1), 8);
        holders("who holds it stays", desk, -1, 1);
    }

    private static void picks() {
        FairDesk desk = desk(row(3, 9, 9, 1, 0), row(9, 9, 1, 1, 0), row(5, 5, 5, 5, 5));
        desk.picks(0);
        holders("from 0 on", desk, 1, 0, 2, 0, 1);
        desk.picks(2);
        holders("from 2 on, all put back before", desk, 2, 0, 1, 2, 0);
        CHECK.badIndex("picks(3)", () -> desk.picks(3));
        CHECK.badIndex("picks(-1)", () -> desk.picks(-1));
        holders("nothing changed", desk, 2, 0, 1, 2, 0);
        FairDesk worthless = alike(2, 3, 0);
        worthless.picks(1);
        holders("worth nothing, yet taken", worthless, 1, 0, 1);
    }

    private static void circles() {
        FairDesk desk = desk(row(5, 4, 3, 3, 2, 1), row(5, 1, 1, 4, 4, 1), row(2, 5, 5, 1, 1, 0));
        desk.give(0, 2);
        CHECK.same("circles()", desk.circles(), 0);
        holders("no circle", desk, 0, 1, 2, 1, 0, 2);
        FairDesk worthless = alike(3, 3, 0);
        CHECK.same("worth nothing: circles()", worthless.circles(), 0);
        holders("nobody envies, the lowest gets all", worthless, 0, 0, 0);
    }

    private static void circlesTurned() {
        // After two items each has what the other likes better; the circle is turned before the third is given.
        FairDesk desk = desk(row(1, 5, 1), row(5, 2, 1));
        CHECK.same("circles()", desk.circles(), 1);
        holders("turned", desk, 1, 0, 0);
        FairDesk early = desk(row(1, 5), row(5, 2));
        CHECK.same("none behind the last item", early.circles(), 0);
        holders("not turned", early, 0, 1);
    }

    private static void circleBehindATail() {
        // From 0 one goes to 1, whom 2 envies, whom 1 envies: 0 is on no circle, and keeps its share.
        FairDesk desk = desk(row(9, 0, 0, 1), row(9, 1, 9, 1), row(0, 9, 1, 1));
        CHECK.same("circles()", desk.circles(), 1);
        holders("turned behind a tail", desk, 0, 2, 1, 0);
    }

    private static void product() {
        FairDesk desk = desk(row(5, 4, 3, 3, 2, 1), row(5, 1, 1, 4, 4, 1), row(2, 5, 5, 1, 1, 0));
        CHECK.same("product()", desk.product(), 480);
        holders("by product", desk, 0, 2, 2, 1, 1, 0);
        FairDesk tie = alike(2, 2, 3);
        CHECK.same("of several: product()", tie.product(), 9);
        holders("of several, the lowest item to the lower", tie, 0, 1);
        FairDesk none = alike(3, 2, 0);
        CHECK.same("worth nothing: product()", none.product(), 1);
        holders("worth nothing, all to the lowest", none, 0, 0);
        FairDesk empty = new FairDesk();
        empty.people(6);
        CHECK.same("no items: product()", empty.product(), 1);
    }

    private static void productOfMostPeople() {
        // Two people with something (1 times 1) go before one with much.
        FairDesk desk = desk(row(1000, 1), row(1, 0), row(0, 0));
        CHECK.same("product()", desk.product(), 1);
        holders("most people first", desk, 1, 0);
        FairDesk alone = alike(1, 12, 1000);
        CHECK.same("alone: product()", alone.product(), 12000);
        FairDesk six = alike(6, 6, 1000);
        CHECK.same("the greatest: product()", six.product(), 1000000000000000000L);
        holders("one each", six, 0, 1, 2, 3, 4, 5);
    }

    private static void productsLimit() {
        int[] mostItems = {12, 12, 10, 8, 6, 6};
        for (int n = 1; n <= 6; n++) {
            FairDesk desk = alike(n, mostItems[n - 1], 1);
            desk.give(0, 0);
            desk.product();
            CHECK.same("at the limit: guarantee(0) of " + n, desk.guarantee(0), mostItems[n - 1] / n);
            if (mostItems[n - 1] < 12) {
                desk.items(mostItems[n - 1] + 1);
                desk.give(0, 0);
                CHECK.badState("beyond the limit: product() of " + n, () -> desk.product());
                CHECK.badState("beyond the limit: guarantee(0) of " + n, () -> desk.guarantee(0));
                CHECK.badIndex("no such person goes before", () -> desk.guarantee(6));
                CHECK.same("nothing changed", desk.holder(0), 0);
                desk.items(12);
                CHECK.badState("far beyond the limit: product() of " + n, () -> desk.product());
            }
        }
    }

    private static void giveAndHolder() {
        FairDesk desk = alike(2, 2, 1);
        CHECK.same("at first", desk.give(1, 1), FairDesk.NONE);
        CHECK.same("holder(1)", desk.holder(1), 1);
        CHECK.same("holder(0)", desk.holder(0), FairDesk.NONE);
        CHECK.same("to another", desk.give(1, 0), 1);
        CHECK.same("to nobody", desk.give(1, FairDesk.NONE), 0);
        CHECK.same("to nobody again", desk.give(1, FairDesk.NONE), FairDesk.NONE);
        desk.give(0, 1);
        CHECK.badIndex("give(2, 0)", () -> desk.give(2, 0));
        CHECK.badIndex("give(-1, 0)", () -> desk.give(-1, 0));
        CHECK.badIndex("give(0, 2)", () -> desk.give(0, 2));
        CHECK.badIndex("give(0, -2)", () -> desk.give(0, -2));
        CHECK.badIndex("holder(2)", () -> desk.holder(2));
        CHECK.badIndex("holder(-1)", () -> desk.holder(-1));
        CHECK.same("nothing changed", desk.holder(0), 1);
    }

    private static void worthAndEnvy() {
        FairDesk desk = desk(row(5, 4, 3, 2), row(1, 1, 1, 9));
        CHECK.same("nothing held: worth(0, 1)", desk.worth(0, 1), 0);
        CHECK.same("nothing held: envy with drop", desk.envy(0, 1, true), 0);
        desk.give(0, 1);
        desk.give(1, 1);
        desk.give(2, 0);
        CHECK.same("worth(0, 0)", desk.worth(0, 0), 3);
        CHECK.same("worth(0, 1)", desk.worth(0, 1), 9);
        CHECK.same("worth(1, 0)", desk.worth(1, 0), 1);
        CHECK.same("worth(1, 1)", desk.worth(1, 1), 2);
        CHECK.same("envy(0, 1)", desk.envy(0, 1, false), 6);
        CHECK.same("envy(0, 1) with drop", desk.envy(0, 1, true), 1);
        CHECK.same("envy(1, 0)", desk.envy(1, 0, false), 0);
        CHECK.same("envy(1, 0) with drop", desk.envy(1, 0, true), 0);
        CHECK.same("oneself", desk.envy(1, 1, false), 0);
        CHECK.same("oneself with drop", desk.envy(1, 1, true), 0);
        desk.give(3, 0);
        CHECK.same("what is dropped is the greatest to p, not to q", desk.envy(1, 0, true), 0);
        CHECK.same("envy(1, 0) now", desk.envy(1, 0, false), 8);
        CHECK.badIndex("worth(2, 0)", () -> desk.worth(2, 0));
        CHECK.badIndex("worth(0, 2)", () -> desk.worth(0, 2));
        CHECK.badIndex("worth(-1, 0)", () -> desk.worth(-1, 0));
        CHECK.badIndex("nobody has no share: worth(0, NONE)", () -> desk.worth(0, FairDesk.NONE));
        CHECK.badIndex("envy(2, 0)", () -> desk.envy(2, 0, true));
        CHECK.badIndex("envy(0, 2)", () -> desk.envy(0, 2, false));
        CHECK.badIndex("envy(0, NONE)", () -> desk.envy(0, FairDesk.NONE, false));
    }

    private static void guarantee() {
        FairDesk desk = desk(row(5, 4, 3, 3, 2, 1), row(5, 1, 1, 4, 4, 1), row(2, 5, 5, 1, 1, 0));
        desk.give(3, 1);
        CHECK.same("guarantee(0)", desk.guarantee(0), 6);
        CHECK.same("guarantee(1)", desk.guarantee(1), 5);
        CHECK.same("guarantee(2)", desk.guarantee(2), 4);
        CHECK.same("who holds what stays", desk.holder(3), 1);
        FairDesk few = alike(3, 2, 9);
        CHECK.same("fewer items than people", few.guarantee(2), 0);
        // The best bundles are 7+5+5 and 6+6+5: to take the greatest for the least bundle in turn does worse.
        FairDesk hard = desk(row(7, 6, 6, 5, 5, 5), row(0, 0, 0, 0, 0, 0));
        CHECK.same("not found by taking turns", hard.guarantee(0), 17);
        CHECK.same("worth nothing", hard.guarantee(1), 0);
        CHECK.same("alone", alike(1, 12, 1000).guarantee(0), 12000);
        CHECK.badIndex("guarantee(2)", () -> hard.guarantee(2));
        CHECK.badIndex("guarantee(-1)", () -> hard.guarantee(-1));
    }
}
