import java.util.ArrayList;
import java.util.List;

/** A refused call changes nothing: all that can be asked for behind it is answered as by a twin that had no such call. */
public final class RefusedCallsTest extends Cases {
    private interface Call {
        long on(BlackCabinet x);
    }

    public static void main(String[] args) {
        run(RefusedCallsTest.class, 2, 3);
    }

    /** In the midst of its days: deeds to undo, an image, trays of all kinds, a fault, and bytes on the tape. */
    private static BlackCabinet busy() {
        BlackCabinet x = in(FIRST);
        x.seed(5);
        fill(x, 0, 11);
        x.morning(0);
        x.image(0);
        x.sleeps(0);
        x.byRule();
        x.sleeps(0);
        fill(x, 0, 2, 100, 301, 9);
        spell(x, 1, "tgz");
        x.numbers(3, 1, 0);
        read(x, "noon 9;spy;");
        feed(x, "noon 7;prior 9;");
        return x;
    }

    private static List<Long> all(BlackCabinet x) {
        List<Long> told = new ArrayList<>();
        tell(told, x);
        for (int tray = 0; tray < 4; tray++) {
            for (int what = 0; what < 4; what++) {
                told.add((long) x.judge(tray, what));
            }
            told.add((long) x.row(tray, 2));
            told.add((long) x.when(tray, 0, 2));
            told.add((long) x.keys(tray));
            told.add((long) x.keyAt(tray, 1));
            told.add((long) x.place(tray, 2));
        }
        for (int left = x.count(9); left > 0; left--) {
            told.add((long) x.undo(1));
            tell(told, x);
        }
        told.add((long) x.restore(1));
        told.add((long) x.restore(0));
        tell(told, x);
        told.add((long) x.room(15));
        tell(told, x);
        return told;
    }

    private static void tell(List<Long> told, BlackCabinet x) {
        for (int what = 0; what < 13; what++) {
            told.add((long) x.count(what));
        }
        told.add((long) x.fault(0));
        told.add((long) x.fault(1));
        told.add((long) x.best(3));
        told.add((long) x.rule(2));
        told.add((long) x.now());
        told.add((long) drawn(x));
    }

    private static void stays(long code, Call... calls) {
        List<Long> due = all(busy());
        for (int i = 0; i < calls.length; i++) {
            BlackCabinet x = busy();
            due("call " + i, calls[i].on(x), code);
            List<Long> got = all(x);
            for (int j = 0; j < due.size(); j++) {
                due("behind call " + i + ": question " + j, got.get(j), due.get(j));
            }
        }
    }

    static void promise2_feed() {
        BlackCabinet x = busy();
        feed(x, " ".repeat(880));
        due(x.feed(0, 0, 0, 0, 0), -5);
        due(x.count(10), 900);
        due(x.room(900), 2);
        due(x.count(8), 9);
    }

    static void promise3_room() {
        stays(-3, x -> x.room(-1), x -> x.room(21));
    }

    static void promise3_roomWithAFault() {
        // The tape is empty then, and the fault another: all else stays.
        BlackCabinet x = busy();
        BlackCabinet twin = busy();
        feed(x, "noon 1;hand 3;prior 1;name z;letter");
        due(x.room(20 + 35), -32);
        feed(x, "noon 9;spy;");
        x.room(11);
        feed(x, "noon 7;prior 9;");
        due(all(x).equals(all(twin)) ? 1 : 0, 1);
    }

    static void promise12_morning() {
        stays(-2, x -> x.morning(-1), x -> x.morning(4));
        stays(-6, x -> x.morning(2));
        stays(-11, x -> x.morning(0), x -> x.morning(1));
    }

    static void promise12_morningOfARowWhoseLastCantBe() {
        BlackCabinet x = in(alike(5, 2, 4) + "shows:100;");
        for (int[] row : new int[][] {{0, 11, 2, 9, -11}, {0, 11, 2, 12, -12}, {0, 11, 2, 3, -13}}) {
            due(fill(x, 0, row[0], row[1], row[2], row[3]).morning(0), row[4]);
            dueAll(x::count, 5, 2, 1, 4, 0, 0, 0, 3, 50, 0);
            due(drawn(x), 0);
        }
    }

    static void promise14_sleeps() {
        stays(-2, x -> x.sleeps(-1), x -> x.sleeps(2));
    }

    static void promise15_undo() {
        stays(-3, x -> x.undo(0), x -> x.undo(6), x -> x.undo(11));
    }

    static void promise16_judge() {
        stays(-2, x -> x.judge(4, 0), x -> x.judge(0, 4));
        stays(-6, x -> x.judge(2, 0));
    }

    static void promise17_perform() {
        stays(-2, x -> x.perform(-1), x -> x.perform(4));
        stays(-6, x -> x.perform(2));
        stays(0, x -> x.perform(1), x -> x.perform(3));
    }

    static void promise18_mornings() {
        stays(-3, x -> x.mornings(1, 0), x -> x.mornings(1, 31));
        BlackCabinet x = in("noon 9;court 1;letter 0 tongue 0;");
        x.seed(8);
        due(x.mornings(1, 1), -5);
        due(x.count(9), 1);
        due(drawn(x), 8);
    }

    static void promise19_row() {
        stays(-2, x -> x.row(4, 0), x -> x.row(0, 3));
        stays(-6, x -> x.row(2, 0));
    }

    static void promise20_when() {
        stays(-2, x -> x.when(4, 0, 0), x -> x.when(0, 0, 3));
        stays(-6, x -> x.when(2, 0, 0));
        stays(-7, x -> x.when(0, 4, 0), x -> x.when(3, 0, 0));
    }

    static void promise41_plain() {
        stays(-2, x -> x.plain(4, 0, 1), x -> x.plain(1, 0, 4), x -> x.plain(1, 0, 1));
        stays(-6, x -> x.plain(2, 0, 1), x -> x.plain(1, 0, 2));
        stays(-4, x -> x.plain(3, 0, 1));
        stays(-3, x -> x.plain(0, 0, 1), x -> x.plain(1, 26, 0));
    }

    static void promise43_numbers() {
        stays(-2, x -> x.numbers(4, 0, 1), x -> x.numbers(0, 4, 1));
        stays(-3, x -> x.numbers(0, 0, 41), x -> x.numbers(1, 0, -1), x -> x.numbers(2, 0, 41));
    }

    static void promise44_write() {
        stays(-2, x -> x.write(4, 0, 1));
        stays(-6, x -> x.write(2, 0, 1));
        stays(-7, x -> x.write(0, 4, 1), x -> x.write(0, -1, 1), x -> x.write(3, 0, 1));
    }

    static void promise45_lists() {
        stays(-2, x -> x.lists(4), x -> x.lists(-1));
        stays(-6, x -> x.lists(2));
    }

    static void promise46_image() {
        stays(-2, x -> x.image(2), x -> x.image(-1));
    }

    static void promise47_restore() {
        stays(-2, x -> x.restore(2), x -> x.restore(-1));
        stays(-5, x -> x.restore(1));
    }
}
