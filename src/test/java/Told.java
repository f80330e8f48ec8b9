/**
 * All that an object tells of its goods, its rooms or its cake, in a text: two objects with the same text are in
 * the same state there. What can't be asked for without a change is asked for last, so an object is told once.
 * Each text takes fewer than 300 calls, so that one and what came before stay below 512.
 */
final class Told {
    private static final int PEOPLE = 7;
    private static final int ITEMS = 13;
    private static final int PARTS = 16;

    private interface Answer {
        long get();
    }

    private final StringBuilder text = new StringBuilder();

    private Told() {
    }

    static String ofGoods(FairDesk desk) {
        Told told = new Told();
        for (int i = 0; i < ITEMS; i++) {
            int item = i;
            told.add("holder", () -> desk.holder(item));
        }
        for (int i = 0; i < PEOPLE; i++) {
            int p = i;
            told.add("guarantee", () -> desk.guarantee(p));
            for (int j = 0; j < PEOPLE; j++) {
                int q = j;
                told.add("worth", () -> desk.worth(p, q));
                told.add("envy", () -> desk.envy(p, q, false));
                told.add("envy", () -> desk.envy(p, q, true));
            }
            for (int j = 0; j < ITEMS; j++) {
                int item = j;
                told.add("value", () -> desk.value(p, item, 0));
            }
        }
        return told.text.toString();
    }

    static String ofRooms(FairDesk desk) {
        Told told = new Told();
        told.addRents(desk);
        told.add("rooms", () -> desk.rooms());
        told.addRents(desk);
        told.add("total", () -> desk.total(0));
        for (int i = 0; i < PEOPLE; i++) {
            int p = i;
            for (int j = 0; j < PEOPLE; j++) {
                int r = j;
                told.add("room", () -> desk.room(p, r, 0));
            }
        }
        return told.text.toString();
    }

    private void addRents(FairDesk desk) {
        for (int i = 0; i < PEOPLE; i++) {
            int p = i;
            for (int what = 0; what < 3; what++) {
                int part = what;
                add("rent", () -> desk.rent(p, part));
            }
        }
    }

    static String ofCake(FairDesk desk) {
        Told told = new Told();
        told.addPieces(desk);
        for (int i = 0; i < PEOPLE; i++) {
            int p = i;
            for (int j = 0; j < PEOPLE; j++) {
                int q = j;
                told.add("taste", () -> desk.taste(p, q, 0));
                told.add("taste", () -> desk.taste(p, q, 1));
            }
        }
        // The last piece ends where the cake does.
        desk.cut(false);
        told.addPieces(desk);
        for (int i = 0; i < PEOPLE; i++) {
            int p = i;
            for (int j = 0; j < PARTS; j++) {
                int k = j;
                told.add("density", () -> desk.density(p, k, 0));
            }
        }
        return told.text.toString();
    }

    private void addPieces(FairDesk desk) {
        for (int i = 0; i < PEOPLE; i++) {
            int p = i;
            for (int what = 0; what < 4; what++) {
                int part = what;
                add("piece", () -> desk.piece(p, part));
            }
        }
    }

    private void add(String call, Answer answer) {
        String line;
        try {
            line = Long.toString(answer.get());
        } catch (RuntimeException thrown) {
            line = thrown.getClass().getSimpleName();
        }
        text.append(call).append(' ').append(line).append('\n');
    }
}
