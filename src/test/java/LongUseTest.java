import java.util.ArrayList;
import java.util.List;
import java.util.function.Consumer;
import java.util.function.Function;

/** An object is used for at most 512 calls: so the 512th is answered like any before it. */
final class LongUseTest {
    private static final int CALLS = 512;
    private static final Check CHECK = new Check("LongUseTest");

    public static void main(String[] args) {
        CHECK.sentence("What it is", "An object is used for at most 512 calls after it has been made");
        goodsAsTheLastCall();
        roomsAsTheLastCall();
        cakeAsTheLastCall();
        refusedAsTheLastCall();
        dearestCallsAllAlong();
        refusedCallsAllAlong();
        CHECK.end();
    }

    private static void goodsAsTheLastCall() {
        lastCall("people(6)", desk -> Check.thrownBy(() -> desk.people(6)), "nothing thrown");
        lastCall("items(12)", desk -> Check.thrownBy(() -> desk.items(12)), "nothing thrown");
        lastCall("value(1, 2, 1000)", desk -> "" + desk.value(1, 2, 1000), "1");
        lastCall("picks(1)", desk -> Check.thrownBy(() -> desk.picks(1)), "nothing thrown");
        lastCall("circles()", desk -> "" + desk.circles(), "1");
        lastCall("product()", desk -> "" + desk.product(), "30");
        lastCall("give(2, NONE)", desk -> "" + desk.give(2, FairDesk.NONE), "0");
        lastCall("holder(0)", desk -> "" + desk.holder(0), "1");
        lastCall("worth(1, 0)", desk -> "" + desk.worth(1, 0), "3");
        lastCall("envy(1, 0, true)", desk -> "" + desk.envy(1, 0, true), "0");
        lastCall("guarantee(0)", desk -> "" + desk.guarantee(0), "2");
    }

    private static void roomsAsTheLastCall() {
        lastCall("room(0, 0, 100000)", desk -> "" + desk.room(0, 0, 100000), "4");
        lastCall("total(600000)", desk -> "" + desk.total(600000), "10");
        lastCall("rooms()", desk -> "" + desk.rooms(), "11");
        lastCall("rent(0, 1)", desk -> "" + desk.rent(0, 1), "11");
    }

    private static void cakeAsTheLastCall() {
        lastCall("cake(16)", desk -> Check.thrownBy(() -> desk.cake(16)), "nothing thrown");
        lastCall("density(0, 0, 0)", desk -> "" + desk.density(0, 0, 0), "12");
        lastCall("cut(true)", desk -> Check.thrownBy(() -> desk.cut(true)), "nothing thrown");
        lastCall("piece(0, 2)", desk -> "" + desk.piece(0, 2), "13");
        lastCall("taste(1, 0, 1)", desk -> "" + desk.taste(1, 0, 1), "24");
    }

    private static void refusedAsTheLastCall() {
        lastCall("people(7)", desk -> Check.thrownBy(() -> desk.people(7)), "IllegalArgumentException");
        lastCall("items(13)", desk -> Check.thrownBy(() -> desk.items(13)), "IllegalArgumentException");
        lastCall("picks(2)", desk -> Check.thrownBy(() -> desk.picks(2)), "IndexOutOfBoundsException");
        lastCall("taste(0, 2, 0)", desk -> Check.thrownBy(() -> desk.taste(0, 2, 0)), "IndexOutOfBoundsException");
    }

    /** The call is answered the same right behind the set-up and, with idle calls before and behind that, as the last. */
    private static void lastCall(String call, Function<FairDesk, String> answer, String want) {
        List<Consumer<FairDesk>> steps = setUp();
        CHECK.same(call + " early", answer.apply(desk(steps)), want);
        for (int i = steps.size(); i < CALLS - 1; i++) {
            steps.add(i % 2 == 0 ? 0 : steps.size(), i % 3 == 0 ? LongUseTest::refused : LongUseTest::idle);
        }
        CHECK.same(call + " as the last", answer.apply(desk(steps)), want);
    }

    private static FairDesk desk(List<Consumer<FairDesk>> steps) {
        FairDesk desk = new FairDesk();
        for (Consumer<FairDesk> step : steps) {
            step.accept(desk);
        }
        return desk;
    }

    private static void idle(FairDesk desk) {
        desk.worth(0, 0);
    }

    private static void refused(FairDesk desk) {
        CHECK.badArgument("people(0)", () -> desk.people(0));
    }

    /** Each step is one call. */
    private static List<Consumer<FairDesk>> setUp() {
        List<Consumer<FairDesk>> steps = new ArrayList<>();
        steps.add(desk -> desk.people(2));
        steps.add(desk -> desk.items(3));
        steps.add(desk -> desk.total(10));
        steps.add(desk -> desk.cake(2));
        addRows(steps, new int[][] {{1, 5, 1}, {5, 2, 1}}, FairDesk::value);
        addRows(steps, new int[][] {{4, 6}, {5, 5}}, FairDesk::room);
        addRows(steps, new int[][] {{12, 1}, {1, 1}}, FairDesk::density);
        steps.add(desk -> desk.circles());
        steps.add(desk -> desk.rooms());
        steps.add(desk -> desk.cut(false));
        return steps;
    }

    private interface Setting {
        int set(FairDesk desk, int p, int place, int v);
    }

    private static void addRows(List<Consumer<FairDesk>> steps, int[][] rows, Setting setting) {
        for (int i = 0; i < rows.length; i++) {
            for (int j = 0; j < rows[i].length; j++) {
                int p = i;
                int place = j;
                steps.add(desk -> setting.set(desk, p, place, rows[p][place]));
            }
        }
    }

    private static void dearestCallsAllAlong() {
        FairDesk desk = Desks.withGoods(Desks.rowsAlike(4, 8, 1));
        int made = 2 + 4 * 8;
        for (int call = made; call + 3 <= CALLS; call += 3) {
            CHECK.same("circles()", desk.circles(), 0);
            CHECK.same("product()", desk.product(), 16);
            CHECK.same("guarantee(3)", desk.guarantee(3), 2);
        }
    }

    private static void refusedCallsAllAlong() {
        FairDesk desk = desk(setUp());
        for (int call = setUp().size(); call + 4 <= CALLS - 16; call += 4) {
            CHECK.badArgument("cake(17)", () -> desk.cake(17));
            CHECK.badIndex("give(3, 0)", () -> desk.give(3, 0));
            CHECK.badIndex("density(0, 16, 1)", () -> desk.density(0, 16, 1));
            CHECK.badIndex("rent(2, 0)", () -> desk.rent(2, 0));
        }
        CHECK.same("holders", Desks.holders(desk, 3), "1 0 0");
        CHECK.same("rents", Desks.rents(desk, 2), "1 for 11/2, 0 for 9/2");
        CHECK.same("the first piece", Desks.pieces(desk, 1), "0/1 to 13/24");
    }
}
