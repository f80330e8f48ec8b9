import java.util.ArrayList;
import java.util.List;
import java.util.function.Consumer;
import java.util.function.Function;

/**
 * Each call that is refused throws what is due and changes nothing: of two objects made alike one gets the call,
 * and then both tell the same. So do calls that only ask.
 */
final class RefusedCallsTest {
    private static final Check CHECK = new Check("RefusedCallsTest");

    /** How an object was made, and which calls it refuses, or answers without a change. */
    private static final class State {
        final String name;
        final int n;
        final int m;
        final Consumer<FairDesk> making;
        final List<String> calls = new ArrayList<>();
        final List<String> due = new ArrayList<>();
        final List<Consumer<FairDesk>> tries = new ArrayList<>();

        State(String name, int n, int m, Consumer<FairDesk> making) {
            this.name = name;
            this.n = n;
            this.m = m;
            this.making = making;
        }

        FairDesk make() {
            FairDesk desk = new FairDesk();
            making.accept(desk);
            return desk;
        }

        void add(String due, String call, Consumer<FairDesk> attempt) {
            calls.add(call);
            this.due.add(due);
            tries.add(attempt);
        }

        void badArgument(String call, Consumer<FairDesk> attempt) {
            add("IllegalArgumentException", call, attempt);
        }

        void badIndex(String call, Consumer<FairDesk> attempt) {
            add("IndexOutOfBoundsException", call, attempt);
        }

        void badState(String call, Consumer<FairDesk> attempt) {
            add("IllegalStateException", call, attempt);
        }

        void asks(String call, Consumer<FairDesk> attempt) {
            add("nothing thrown", call, attempt);
        }
    }

    public static void main(String[] args) {
        look(fresh());
        look(divided());
        look(changedSince());
        look(full());
        CHECK.end();
    }

    /** Nothing is divided, and there are no items. */
    private static State fresh() {
        State state = new State("fresh", 1, 0, desk -> { });
        addBadArguments(state);
        addBadIndexes(state);
        addUndivided(state);
        return state;
    }

    /** All is divided, and nobody has the same as another. */
    private static State divided() {
        State state = new State("divided", 3, 4, RefusedCallsTest::divideForThree);
        addBadArguments(state);
        addBadIndexes(state);
        state.asks("holder(3)", desk -> desk.holder(3));
        state.asks("worth(2, 0)", desk -> desk.worth(2, 0));
        state.asks("envy(1, 2, false)", desk -> desk.envy(1, 2, false));
        state.asks("envy(1, 2, true)", desk -> desk.envy(1, 2, true));
        state.asks("guarantee(1)", desk -> desk.guarantee(1));
        state.asks("rent(1, 1)", desk -> desk.rent(1, 1));
        state.asks("piece(2, 0)", desk -> desk.piece(2, 0));
        state.asks("taste(2, 1, 0)", desk -> desk.taste(2, 1, 0));
        return state;
    }

    private static void divideForThree(FairDesk desk) {
        int[][] values = {{5, 4, 3, 2}, {1, 9, 1, 9}, {2, 2, 8, 2}};
        int[][] rooms = {{500, 300, 100}, {400, 400, 100}, {600, 200, 100}};
        int[][] densities = {{1, 2, 3, 4, 5}, {5, 0, 0, 1, 0}, {0, 12, 7, 0, 3}};
        desk.people(3);
        desk.items(4);
        desk.total(900);
        desk.cake(5);
        for (int p = 0; p < 3; p++) {
            for (int item = 0; item < 4; item++) {
                desk.value(p, item, values[p][item]);
            }
            for (int r = 0; r < 3; r++) {
                desk.room(p, r, rooms[p][r]);
            }
            for (int k = 0; k < 5; k++) {
                desk.density(p, k, densities[p][k]);
            }
        }
        desk.picks(1);
        desk.rooms();
        desk.cut(true);
    }

    /** The rooms can't be divided any more, an item was put back, and the densities are not those of the cut. */
    private static State changedSince() {
        State state = new State("changed since", 3, 4, desk -> {
            divideForThree(desk);
            desk.give(2, FairDesk.NONE);
            desk.total(901);
            desk.density(1, 0, 0);
        });
        addBadArguments(state);
        addBadIndexes(state);
        state.badState("rooms()", desk -> desk.rooms());
        return state;
    }

    /** As much of everything as there can be, nothing of it divided but by hand. */
    private static State full() {
        State state = new State("full", 6, 12, desk -> {
            desk.people(6);
            desk.items(12);
            desk.cake(16);
            desk.total(600000);
            for (int p = 0; p < 6; p++) {
                for (int item = 0; item < 12; item++) {
                    desk.value(p, item, 1000 - item * p);
                }
                for (int r = 0; r < 6; r++) {
                    desk.room(p, r, 100000 - (p == 5 && r == 5 ? 1 : 0));
                }
                desk.density(p, 15, 12);
                desk.give(p, 5 - p);
            }
        });
        addBadArguments(state);
        addBadIndexes(state);
        addUndivided(state);
        state.badState("product()", desk -> desk.product());
        state.badState("guarantee(0)", desk -> desk.guarantee(0));
        state.badState("rooms()", desk -> desk.rooms());
        return state;
    }

    private static void addBadArguments(State state) {
        for (int n : Desks.outside(1, 6)) {
            state.badArgument("people(" + n + ")", desk -> desk.people(n));
        }
        for (int m : Desks.outside(0, 12)) {
            state.badArgument("items(" + m + ")", desk -> desk.items(m));
        }
        for (int v : Desks.outside(0, 1000)) {
            state.badArgument("value(0, 0, " + v + ")", desk -> desk.value(0, 0, v));
        }
        for (int v : Desks.outside(0, 100000)) {
            state.badArgument("room(0, 0, " + v + ")", desk -> desk.room(0, 0, v));
        }
        for (int total : Desks.outside(0, 600000)) {
            state.badArgument("total(" + total + ")", desk -> desk.total(total));
        }
        for (int length : Desks.outside(1, 16)) {
            state.badArgument("cake(" + length + ")", desk -> desk.cake(length));
        }
        for (int v : Desks.outside(0, 12)) {
            state.badArgument("density(0, 0, " + v + ")", desk -> desk.density(0, 0, v));
        }
    }

    private static void addBadIndexes(State state) {
        for (int p : Desks.outside(0, state.n - 1)) {
            addBadPerson(state, p);
        }
        for (int item : Desks.outside(0, state.m - 1)) {
            state.badIndex("value(0, " + item + ", 7)", desk -> desk.value(0, item, 7));
            state.badIndex("give(" + item + ", 0)", desk -> desk.give(item, 0));
            state.badIndex("holder(" + item + ")", desk -> desk.holder(item));
        }
        for (int p : Desks.outside(FairDesk.NONE, state.n - 1)) {
            state.badIndex("give(0, " + p + ")", desk -> desk.give(0, p));
        }
        for (int k : Desks.outside(0, 15)) {
            state.badIndex("density(0, " + k + ", 7)", desk -> desk.density(0, k, 7));
        }
        for (int what : Desks.outside(0, 2)) {
            state.badIndex("rent(0, " + what + ")", desk -> desk.rent(0, what));
        }
        for (int what : Desks.outside(0, 3)) {
            state.badIndex("piece(0, " + what + ")", desk -> desk.piece(0, what));
        }
        for (int what : Desks.outside(0, 1)) {
            state.badIndex("taste(0, 0, " + what + ")", desk -> desk.taste(0, 0, what));
        }
    }

    private static void addBadPerson(State state, int p) {
        state.badIndex("value(" + p + ", 0, 7)", desk -> desk.value(p, 0, 7));
        state.badIndex("picks(" + p + ")", desk -> desk.picks(p));
        state.badIndex("worth(" + p + ", 0)", desk -> desk.worth(p, 0));
        state.badIndex("worth(0, " + p + ")", desk -> desk.worth(0, p));
        state.badIndex("envy(" + p + ", 0, false)", desk -> desk.envy(p, 0, false));
        state.badIndex("envy(0, " + p + ", true)", desk -> desk.envy(0, p, true));
        state.badIndex("guarantee(" + p + ")", desk -> desk.guarantee(p));
        state.badIndex("room(" + p + ", 0, 7)", desk -> desk.room(p, 0, 7));
        state.badIndex("room(0, " + p + ", 7)", desk -> desk.room(0, p, 7));
        state.badIndex("rent(" + p + ", 0)", desk -> desk.rent(p, 0));
        state.badIndex("density(" + p + ", 0, 7)", desk -> desk.density(p, 0, 7));
        state.badIndex("piece(" + p + ", 0)", desk -> desk.piece(p, 0));
        state.badIndex("taste(" + p + ", 0, 0)", desk -> desk.taste(p, 0, 0));
        state.badIndex("taste(0, " + p + ", 0)", desk -> desk.taste(0, p, 0));
    }

    private static void addUndivided(State state) {
        for (int what = 0; what < 3; what++) {
            int part = what;
            state.badState("rent(0, " + what + ")", desk -> desk.rent(0, part));
        }
        for (int what = 0; what < 4; what++) {
            int part = what;
            state.badState("piece(0, " + what + ")", desk -> desk.piece(0, part));
        }
        state.badState("taste(0, 0, 0)", desk -> desk.taste(0, 0, 0));
        state.badState("taste(0, 0, 1)", desk -> desk.taste(0, 0, 1));
    }

    private static void look(State state) {
        String goods = Told.ofGoods(state.make());
        String rooms = Told.ofRooms(state.make());
        String cake = Told.ofCake(state.make());
        for (int i = 0; i < state.calls.size(); i++) {
            tellsTheSame(state, i, "goods", Told::ofGoods, goods);
            tellsTheSame(state, i, "rooms", Told::ofRooms, rooms);
            tellsTheSame(state, i, "cake", Told::ofCake, cake);
        }
    }

    private static void tellsTheSame(State state, int i, String part, Function<FairDesk, String> telling, String want) {
        FairDesk desk = state.make();
        String what = state.name + ": " + state.calls.get(i);
        CHECK.same(what, Check.thrownBy(() -> state.tries.get(i).accept(desk)), state.due.get(i));
        CHECK.isTrue(what + " changed something of the " + part, telling.apply(desk).equals(want));
    }
}
