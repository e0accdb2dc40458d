/** Trays, images and counts: promises 43 to 48, with the terms of TRAYS and IMAGES. */
public final class Promises43To48Test extends Cases {
    private static final int MIN = Integer.MIN_VALUE;
    private static final int MAX = Integer.MAX_VALUE;

    public static void main(String[] args) {
        run(Promises43To48Test.class, 43, 48);
    }

    /** All numbers of a tray are 0: else another key of one shift than 25 would make a b of it. */
    private static void allZero(BlackCabinet x, int tray, int n) {
        read(x, "noon 9;name b;");
        due(x.keyAt(tray, 0), 25);
        due(x.keyAt(tray, 1), n == 1 ? 750 : 125);
    }

    /** Each v told comes back as it is there. */
    private static void cuts(int sort, long[][] cuts) {
        BlackCabinet x = new BlackCabinet();
        x.numbers(0, sort, 1);
        for (long[] cut : cuts) {
            due("sort " + sort + ", " + cut[0], x.write(0, 0, cut[0]), cut[1]);
        }
    }

    // ---- 43: numbers

    static void promise43_traysAreMissingAtFirst() {
        BlackCabinet x = new BlackCabinet();
        dueAll(tray -> x.write(tray, 0, 0), -6, -6, -6, -6, -2);
    }

    static void promise43_noSuchTray() {
        BlackCabinet x = new BlackCabinet();
        due(x.numbers(-1, 0, 1), -2);
        due(x.numbers(4, 0, 1), -2);
        due(x.numbers(MIN, 0, 1), -2);
        due(x.numbers(MAX, 0, 1), -2);
        dueAll(tray -> x.numbers(tray, 0, 1), 0, 0, 0, 0, -2);
    }

    static void promise43_noSuchSort() {
        BlackCabinet x = new BlackCabinet();
        due(x.numbers(0, -1, 1), -2);
        due(x.numbers(0, 4, 1), -2);
        due(x.numbers(0, MIN, 1), -2);
        due(x.numbers(0, MAX, 1), -2);
        dueAll(sort -> x.numbers(0, sort, 1), 0, 0, 0, 0, -2);
    }

    static void promise43_nIs0To40() {
        BlackCabinet x = new BlackCabinet();
        due(x.numbers(0, 0, -1), -3);
        due(x.numbers(0, 0, 41), -3);
        due(x.numbers(0, 0, MIN), -3);
        due(x.numbers(0, 0, MAX), -3);
        due(x.numbers(0, 0, 0), 0);
        due(x.numbers(0, 0, 40), 0);
    }

    static void promise43_noSuchTrayOrSortIsToldFirst() {
        BlackCabinet x = new BlackCabinet();
        due(x.numbers(4, 0, 41), -2);
        due(x.numbers(0, 4, -1), -2);
    }

    static void promise43_theTrayStays() {
        BlackCabinet x = new BlackCabinet();
        x.numbers(0, 0, 41);
        due(x.write(0, 0, 1), -6);
        x.numbers(0, 1, 2);
        x.write(0, 1, 7);
        due(x.numbers(0, 0, 41), -3);
        due(x.numbers(0, 0, -1), -3);
        due(x.write(0, 0, 300), 300);
        x.write(0, 0, 0);
        due(x.write(0, 2, 1), -7);
        read(x, "noon 9;name ah;");
        due(x.place(0, 0), 0);
    }

    static void promise43_noNumbers() {
        BlackCabinet x = new BlackCabinet();
        x.numbers(0, 0, 0);
        due(x.write(0, 0, 1), -7);
        due(x.keys(0), -4);
        due(x.row(0, 0), -1);
    }

    static void promise43_allAre0() {
        BlackCabinet x = new BlackCabinet();
        for (int n : new int[] {1, 2, 39, 40}) {
            x.numbers(3, 0, n);
            allZero(x, 3, n);
        }
    }

    static void promise43_inPlaceOfAnotherOne() {
        BlackCabinet x = new BlackCabinet();
        spell(x, 0, "z".repeat(40));
        x.numbers(0, 3, 40);
        due(x.write(0, 0, 1L << 40), 1L << 40);
        x.write(0, 0, 0);
        allZero(x, 0, 40);
        x.numbers(0, 1, 2);
        due(x.write(0, 2, 0), -7);
        due(x.write(0, 1, 1 << 16), 0);
    }

    static void promise43_theOthersStay() {
        BlackCabinet x = fill(fill(fill(fill(new BlackCabinet(), 0, 1), 1, 2), 2, 3), 3, 4);
        x.numbers(1, 0, 1);
        for (int tray = 0; tray < 4; tray++) {
            read(x, "noon 9;name " + "bade".charAt(tray) + ";");
            due("tray " + tray, x.place(tray, 0), 0);
        }
    }

    static void promise43_theyStayWithAnotherRoomAndAnImage() {
        BlackCabinet x = fill(in(FIRST), 0, 1, 2);
        x.image(0);
        x.write(0, 0, 3);
        read(x, "noon 9;name dc;");
        due(x.place(0, 0), 0);
        x.restore(0);
        read(x, "noon 9;name dc;");
        due(x.place(0, 0), 0);
    }

    // ---- 44: write

    static void promise44_noSuchTray() {
        BlackCabinet x = new BlackCabinet();
        due(x.write(-1, 0, 1), -2);
        due(x.write(4, 0, 1), -2);
        due(x.write(MIN, -1, 1), -2);
        due(x.write(MAX, 40, 1), -2);
    }

    static void promise44_aMissingTray() {
        BlackCabinet x = new BlackCabinet();
        due(x.write(0, 0, 1), -6);
        due(x.write(0, -1, 1), -6);
        due(x.write(3, 40, 1), -6);
    }

    static void promise44_noSuchNumber() {
        BlackCabinet x = new BlackCabinet();
        x.numbers(0, 0, 3);
        due(x.write(0, 3, 1), -7);
        due(x.write(0, -1, 1), -7);
        due(x.write(0, MIN, 1), -7);
        due(x.write(0, MAX, 1), -7);
        due(x.write(0, 2, 1), 1);
        x.numbers(0, 0, 40);
        due(x.write(0, 39, 5), 5);
        due(x.write(0, 40, 5), -7);
    }

    static void promise44_eightBits() {
        cuts(0, new long[][] {{127, 127}, {128, -128}, {-128, -128}, {-129, 127}, {255, -1}, {256, 0}, {-1, -1},
            {Long.MAX_VALUE, -1}, {Long.MIN_VALUE, 0}});
    }

    static void promise44_sixteenBits() {
        cuts(1, new long[][] {{32767, 32767}, {32768, -32768}, {-32768, -32768}, {-32769, 32767}, {65535, -1}, {65536, 0},
            {128, 128}, {Long.MAX_VALUE, -1}, {Long.MIN_VALUE, 0}});
    }

    static void promise44_thirtyTwoBits() {
        cuts(2, new long[][] {{MAX, MAX}, {MAX + 1L, MIN}, {MIN, MIN}, {MIN - 1L, MAX}, {0xffffffffL, -1}, {1L << 32, 0},
            {65536, 65536}, {Long.MAX_VALUE, -1}, {Long.MIN_VALUE, 0}});
    }

    static void promise44_sixtyFourBits() {
        cuts(3, new long[][] {{Long.MAX_VALUE, Long.MAX_VALUE}, {Long.MIN_VALUE, Long.MIN_VALUE}, {1L << 32, 1L << 32}, {-1, -1}});
    }

    static void promise44_itIsThere() {
        BlackCabinet x = new BlackCabinet();
        x.numbers(0, 0, 2);
        x.write(0, 1, 256 + 3);
        read(x, "noon 9;name ad;");
        due(x.place(0, 0), 0);
        x.write(0, 1, 128);
        due(x.place(0, 0), -3);
    }

    // ---- 45: lists

    static void promise45_noSuchTray() {
        BlackCabinet x = in(FIRST);
        due(x.lists(-1), -2);
        due(x.lists(4), -2);
        due(x.lists(MIN), -2);
        due(x.lists(MAX), -2);
    }

    static void promise45_aMissingTray() {
        dueAll(in(FIRST)::lists, -6, -6, -6, -6, -2);
    }

    static void promise45_noPlaces() {
        due(fill(in(FIRST), 0).lists(0), 0);
    }

    static void promise45_fewerPlaces() {
        BlackCabinet x = fill(in(FIRST), 0, 77, 77);
        due(x.lists(0), 2);
        dueAll(what -> x.row(0, what), -1, 0, 27);
    }

    static void promise45_asManyPlaces() {
        BlackCabinet x = fill(in(FIRST), 0, 77, 77, 77);
        due(x.lists(0), 3);
        dueAll(what -> x.row(0, what), -1, 0, 27);
        due(x.when(0, 2, 0), 6);
    }

    static void promise45_morePlacesStay() {
        BlackCabinet x = fill(in(FIRST), 0, 77, 77, 77, 77, 77);
        due(x.lists(0), 3);
        dueAll(what -> x.row(0, what), 3, 1, 27);
    }

    static void promise45_noneIsBest() {
        BlackCabinet x = fill(new BlackCabinet(), 0, 77);
        due(x.lists(0), 0);
        due(x.row(0, 1), 1);
    }

    static void promise45_allSixInEachSort() {
        for (int sort = 0; sort < 4; sort++) {
            BlackCabinet x = in("noon 300;hand 1;hand 1;hand 0;court 1;" + "letter 0 tongue 0;".repeat(6));
            x.numbers(0, sort, 40);
            due(x.lists(0), 6);
            due(x.row(0, 0), 6);
            due(x.row(0, 2), 35);
        }
    }

    // ---- 46: image

    static void promise46_noSuchImage() {
        BlackCabinet x = in(FIRST);
        due(x.image(-1), -2);
        due(x.image(2), -2);
        due(x.image(MIN), -2);
        due(x.image(MAX), -2);
        dueAll(x::image, 0, 0, -2);
    }

    static void promise46_withoutARoom() {
        BlackCabinet x = new BlackCabinet();
        due(x.image(1), 0);
        read(x, FIRST);
        due(x.restore(1), 0);
        dueAll(x::count, 0, 0, 0, 0, 0, 0, 0, 0, 50, 0, 0, 0, 0);
    }

    static void promise46_itChangesNothing() {
        BlackCabinet x = in(FIRST);
        x.sleeps(0);
        x.image(0);
        due(x.count(9), 1);
        due(x.undo(1), 0);
        due(x.count(7), 3);
    }

    static void promise46_aLaterOneStrikes() {
        BlackCabinet x = in(FIRST);
        x.image(0);
        x.sleeps(0);
        x.image(0);
        x.sleeps(1);
        x.restore(0);
        due(x.count(7), 2);
    }

    static void promise46_twoOfThem() {
        BlackCabinet x = in(FIRST);
        x.image(0);
        read(x, "noon 9;");
        x.image(1);
        x.restore(0);
        due(x.count(0), 30);
        x.restore(1);
        due(x.count(0), 9);
    }

    // ---- 47: restore

    static void promise47_noSuchImage() {
        BlackCabinet x = in(FIRST);
        due(x.restore(-1), -2);
        due(x.restore(2), -2);
        due(x.restore(MIN), -2);
        due(x.restore(MAX), -2);
    }

    static void promise47_noneWasMade() {
        BlackCabinet x = in(FIRST);
        dueAll(x::restore, -5, -5, -2);
        x.image(1);
        dueAll(x::restore, -5, 0, -2);
        x.image(0);
        dueAll(x::restore, 0, 0, -2);
    }

    static void promise47_allThatIsInIt() {
        BlackCabinet x = in(FIRST + "shows:100;");
        x.seed(77);
        x.byRule();
        x.sleeps(1);
        x.image(1);
        int drawn = drawn(x);
        read(x, "noon 9;hand 3;court 1;court 2;court 3;letter 0 tongue 0;opens:5;prior 1;name x;");
        x.byRule();
        x.byRule();
        due(x.restore(1), 0);
        dueAll(x::count, 30, 2, 2, 3, 3, 3, 1, 1, 50, 0, 0, 11, 3);
        due(drawn(x), drawn);
        due(drawn, next(next(77)));
        dueAll(x::name, 17, 4, 23, -1);
        dueAll(x::court, 80, 30, -2);
        dueAll(what -> x.letter(2, what), 0, 0, 4, 9, 2, 0, 0, 0, 0);
        dueAll(what -> x.hand(1, what), 6, 4, 0, 3);
        dueAll(what -> x.takes(2, what), 2, 5, 100);
        due(x.copies(0, 1), 6);
        dueAll(x::best, 9, 1, 4, 27);
        dueAll(x::rule, 4, 9, 27);
    }

    static void promise47_nothingCanBeUndoneBehind() {
        BlackCabinet x = in(FIRST);
        x.sleeps(0);
        x.image(0);
        x.sleeps(1);
        due(x.count(9), 2);
        x.restore(0);
        due(x.count(9), 0);
        due(x.undo(1), -3);
        x.sleeps(0);
        due(x.undo(1), 0);
        due(x.count(7), 2);
    }

    static void promise47_asOftenAsTold() {
        BlackCabinet x = in(FIRST);
        x.image(0);
        for (int i = 0; i < 3; i++) {
            x.byRule();
            x.byRule();
            dueAll(x::best, 0, 0, 0, 0);
            due(x.restore(0), 0);
            dueAll(x::best, 17, 3, 7, 27);
            due(x.count(4), 0);
        }
    }

    static void promise47_bestOfItsRoom() {
        BlackCabinet x = in(alike(4, 2, 3));
        dueAll(x::best, 2, 2, 3, 4);
        x.image(0);
        read(x, alike(20, 2, 3) + "copies:9;");
        dueAll(x::best, 3, 3, 7, 20);
        due(x.without(0), 1);
        x.restore(0);
        dueAll(x::best, 2, 2, 3, 4);
        due(x.noonFor(3), 5);
        dueAll(x::bestBy, 0, 0, 0, 1, 2, 3, 3);
    }

    static void promise47_whatIsNotInIt() {
        BlackCabinet x = in(FIRST);
        x.image(0);
        feed(x, "noon 9;spy;");
        due(x.restore(0), 0);
        due(x.count(10), 20);
        due(x.room(11), -32);
        x.restore(0);
        dueAll(x::fault, 2, 7);
    }

    // ---- 48: count

    static void promise48_others() {
        for (BlackCabinet x : new BlackCabinet[] {new BlackCabinet(), in(FIRST)}) {
            due(x.count(-1), -1);
            due(x.count(13), -1);
            due(x.count(MIN), -1);
            due(x.count(MAX), -1);
        }
    }

    static void promise48_allOfThem() {
        BlackCabinet x = in(FIRST + "prior 7;shows:100;");
        dueAll(x::count, 30, 2, 2, 3, 0, 0, 0, 3, 7, 0, 0, 12, 3, -1);
        fill(x, 0, 11).morning(0);
        x.sleeps(0);
        feed(x, "noon");
        dueAll(x::count, 30, 2, 2, 3, 2, 2, 1, 2, 7, 2, 20, 12, 3, -1);
    }

    static void promise48_theMost() {
        BlackCabinet x = in("noon 300;" + "hand 0;".repeat(3) + "court 1;".repeat(4) + "letter 0 tongue 0;".repeat(6)
            + "prior 100;name abcdefgh;copies:1;shows:100;");
        feed(x, " ".repeat(900));
        x.byRule();
        for (int i = 0; i < 12; i++) {
            x.byRule();
        }
        dueAll(x::count, 300, 3, 4, 6, 63, 63, 13, 7, 100, 10, 900, 18, 8, -1);
    }
}
