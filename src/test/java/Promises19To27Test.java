/** Rows: promises 19 to 27, with the terms of A ROW and BEST. */
public final class Promises19To27Test extends Cases {
    private static final int MIN = Integer.MIN_VALUE;
    private static final int MAX = Integer.MAX_VALUE;
    /** In this order they take 10 minutes, the other way round 8. */
    private static final String LONG_AND_SHORT = "hand 0;court 1;letter 0 tongue 0 pages 5 seal 1;"
        + "letter 0 tongue 0 pages 1 seal 3;opens:1;copies:pages;mends:seal;";
    /** One letter that is done in as many minutes as are told and 5. */
    private static final String ALONE = "noon 300;hand 0;court 1;letter 0 tongue 0 worth 7;copies:";

    public static void main(String[] args) {
        run(Promises19To27Test.class, 19, 27);
    }

    private static void rowIs(BlackCabinet x, int place, int why, int minute) {
        due(x.row(0, 0), place);
        due(x.row(0, 1), why);
        due(x.row(0, 2), minute);
    }

    private static void whenIs(BlackCabinet x, int i, int open, int copied, int mended) {
        due(x.when(0, i, 0), open);
        due(x.when(0, i, 1), copied);
        due(x.when(0, i, 2), mended);
    }

    private static void bestIs(BlackCabinet x, int worth, int set, int minute, int... row) {
        dueAll(x::best, worth, row.length, set, minute);
        for (int i = 0; i < row.length; i++) {
            due(x.bestAt(i), row[i]);
        }
        due(x.bestAt(row.length), -1);
    }

    // ---- 19: row

    static void promise19_noSuchTrayOrWhat() {
        BlackCabinet x = in(FIRST);
        due(x.row(-1, 0), -2);
        due(x.row(4, 0), -2);
        due(x.row(0, -1), -2);
        due(x.row(0, 3), -2);
        fill(x, 0);
        due(x.row(0, -1), -2);
        due(x.row(0, 3), -2);
        due(x.row(MIN, MAX), -2);
        due(x.row(0, MIN), -2);
    }

    static void promise19_aMissingTray() {
        BlackCabinet x = in(FIRST);
        dueAll(what -> x.row(0, what), -6, -6, -6, -2);
        due(x.row(3, 0), -6);
    }

    static void promise19_anEmptyRow() {
        rowIs(fill(in(FIRST), 0), -1, 0, 0);
        rowIs(fill(new BlackCabinet(), 0), -1, 0, 0);
    }

    static void promise19_anEmptyRowBehindOneThatCantBe() {
        BlackCabinet x = in(FIRST);
        rowIs(fill(x, 0, 10, 9), 1, 1, 12);
        rowIs(fill(x, 0), -1, 0, 0);
    }

    static void promise19_theFirstCantBe() {
        rowIs(fill(in(FIRST), 0, 9), 0, 1, 0);
        rowIs(fill(in(FIRST), 0, 1), 0, 2, 0);
        rowIs(fill(in(alike(2, 1, 1)), 0, 0), 0, 3, 0);
        rowIs(fill(new BlackCabinet(), 0, 0), 0, 1, 0);
    }

    static void promise19_anotherCantBe() {
        rowIs(fill(in(alike(9, 1, 3)), 0, 0, 9, 0), 1, 1, 3);
        rowIs(fill(in(alike(9, 1, 3)), 0, 0, 1, 0), 2, 2, 4);
        rowIs(fill(in(alike(4, 1, 3)), 0, 0, 1, 2, 9), 2, 3, 4);
    }

    static void promise19_allCanBe() {
        rowIs(fill(in(FIRST), 0, 2, 10, 11), -1, 0, 27);
        rowIs(fill(in(alike(8, 3, 6)), 0, 25, 4, 13, 2, 11, 20), -1, 0, 8);
        rowIs(fill(in(alike(7, 3, 6)), 0, 25, 4, 13, 2, 11, 20), 5, 3, 7);
    }

    static void promise19_deedsAreNoLetters() {
        for (long v : new long[] {100, 200, 300, 30, 26, 6, -1, 1L << 32}) {
            rowIs(fill(in(alike(9, 3, 6)), 0, 0, v), 1, 1, 3);
        }
    }

    static void promise19_fortyNumbers() {
        long[] row = new long[40];
        for (int i = 0; i < 40; i++) {
            row[i] = i % 6;
        }
        rowIs(fill(in(alike(300, 1, 6)), 0, row), 6, 2, 8);
    }

    static void promise19_byNoonIsInTime() {
        String room = "hand 0;court 1;letter 0 tongue 0;opens:2;copies:3;mends:4;";
        rowIs(fill(in("noon 9;" + room), 0, 0), -1, 0, 9);
        rowIs(fill(in("noon 8;" + room), 0, 0), 0, 3, 0);
    }

    static void promise19_noMinutesAtAll() {
        BlackCabinet x = in("noon 1;hand 0;court 1;" + "letter 0 tongue 0;".repeat(6) + "opens:0;copies:0;mends:0;");
        rowIs(fill(x, 0, 5, 4, 3, 2, 1, 0), -1, 0, 0);
    }

    static void promise19_theMostMinutes() {
        BlackCabinet x = in("noon 300;hand 0;court 1;" + "letter 0 tongue 0;".repeat(6) + "opens:999;copies:999;mends:999;");
        rowIs(fill(x, 0, 0), 0, 3, 0);
        due(x.hopeless(), 63);
    }

    static void promise19_whoSleepsAndWhatWasRead() {
        BlackCabinet x = in(alike(9, 2, 2));
        x.sleeps(0);
        rowIs(fill(x, 0, 10, 1), 1, 2, 3);
        fill(x, 1, 10).morning(1);
        rowIs(fill(x, 0, 11, 10), 1, 2, 3);
    }

    // ---- 20: when

    static void promise20_noSuchTrayOrWhat() {
        BlackCabinet x = in(FIRST);
        due(x.when(-1, 0, 0), -2);
        due(x.when(4, 0, 0), -2);
        due(x.when(0, 0, -1), -2);
        due(x.when(0, 0, 3), -2);
        fill(x, 0, 10);
        due(x.when(0, 0, -1), -2);
        due(x.when(0, 0, 3), -2);
        due(x.when(0, 9, 3), -2);
        due(x.when(MIN, MIN, MIN), -2);
    }

    static void promise20_aMissingTray() {
        BlackCabinet x = in(FIRST);
        dueAll(what -> x.when(0, 0, what), -6, -6, -6, -2);
        due(x.when(0, -1, 0), -6);
        due(x.when(0, 40, 0), -6);
    }

    static void promise20_thereIsNoIth() {
        BlackCabinet x = fill(in(FIRST), 0, 10, 9);
        due(x.when(0, 2, 0), -7);
        due(x.when(0, -1, 0), -7);
        due(x.when(0, MIN, 0), -7);
        due(x.when(0, MAX, 0), -7);
        due(fill(x, 1).when(1, 0, 0), -7);
        x.numbers(2, 0, 40);
        due(x.when(2, 39, 0), -1);
        due(x.when(2, 40, 0), -7);
    }

    static void promise20_itIsntReached() {
        BlackCabinet x = fill(in(FIRST), 0, 10, 9, 11);
        whenIs(x, 0, 2, 8, 12);
        whenIs(x, 1, -1, -1, -1);
        whenIs(x, 2, -1, -1, -1);
        BlackCabinet late = fill(in(alike(4, 1, 3)), 0, 2, 1, 0);
        whenIs(late, 1, 2, 3, 4);
        whenIs(late, 2, -1, -1, -1);
    }

    static void promise20_oneTableToOpenFromMinute0On() {
        BlackCabinet x = fill(in(FIRST), 0, 2, 10, 11);
        whenIs(x, 0, 2, 22, 27);
        whenIs(x, 1, 4, 10, 14);
        whenIs(x, 2, 6, 11, 17);
    }

    static void promise20_theHandIsBusy() {
        BlackCabinet x = fill(in("noon 99;hand 0;hand 0;court 1;letter 0 tongue 0 pages 9;letter 0 tongue 0 pages 2;"
            + "letter 0 tongue 0 pages 3;opens:1;copies:pages;mends:0;"), 0, 0, 1, 12);
        whenIs(x, 0, 1, 10, 10);
        whenIs(x, 1, 2, 12, 12);
        whenIs(x, 2, 3, 6, 6);
    }

    static void promise20_theTableToMendIsBusy() {
        BlackCabinet x = fill(in("noon 99;hand 0;court 1;letter 0 tongue 0 seal 9;letter 0 tongue 0 seal 1;"
            + "opens:1;copies:1;mends:seal;"), 0, 0, 1);
        whenIs(x, 0, 1, 2, 11);
        whenIs(x, 1, 2, 3, 12);
    }

    static void promise20_whatWasCopiedFirstIsMendedFirst() {
        BlackCabinet x = fill(in("noon 99;hand 0;hand 0;court 1;letter 0 tongue 0 pages 5 seal 1;"
            + "letter 0 tongue 0 pages 3 seal 9;opens:1;copies:pages;mends:seal;"), 0, 0, 11);
        whenIs(x, 1, 2, 5, 14);
        due(x.row(0, 2), 15);
    }

    static void promise20_ofLikeOnesTheFirstInTheRowIsMendedFirst() {
        String room = "noon 99;hand 0;hand 0;court 1;letter 0 tongue 0 pages 5 seal 1;letter 0 tongue 0 pages 4 seal 9;"
            + "opens:1;copies:pages;mends:seal;";
        BlackCabinet x = fill(in(room), 0, 0, 11);
        whenIs(x, 0, 1, 6, 7);
        whenIs(x, 1, 2, 6, 16);
        String other = room.replace("pages 5 seal 1", "pages 4 seal 1").replace("pages 4 seal 9", "pages 5 seal 9");
        BlackCabinet y = fill(in(other), 0, 1, 10);
        whenIs(y, 1, 2, 6, 16);
    }

    static void promise20_nothingBehindItBeingDone() {
        BlackCabinet x = fill(in("noon 99;hand 0;hand 0;court 1;letter 0 tongue 0 pages 5 seal 1;"
            + "letter 0 tongue 0 pages 1 seal 9;opens:1;copies:pages;mends:seal;"), 0, 0, 11);
        whenIs(x, 0, 1, 6, 7);
        whenIs(x, 1, 2, 3, 12);
        due(x.row(0, 2), 13);
    }

    static void promise20_theSixth() {
        BlackCabinet x = fill(in(alike(8, 1, 6)), 0, 5, 4, 3, 2, 1, 0);
        whenIs(x, 5, 6, 7, 8);
        due(x.when(0, 6, 0), -7);
    }

    // ---- 21: best

    static void promise21_noSuchWhat() {
        BlackCabinet x = in(FIRST);
        dueAll(x::best, 17, 3, 7, 27, -2);
        due(x.best(-1), -2);
        due(x.best(MAX), -2);
        due(x.best(MIN), -2);
    }

    static void promise21_noneAtAll() {
        bestIs(new BlackCabinet(), 0, 0, 0);
        bestIs(in("noon 9;hand 0;"), 0, 0, 0);
        bestIs(in("noon 9;court 1;letter 0 tongue 0;"), 0, 0, 0);
        bestIs(in("noon 300;hand 1;court 1;letter 0 tongue 0;"), 0, 0, 0);
        bestIs(in(alike(2, 1, 2)), 0, 0, 0);
    }

    static void promise21_allAreRead() {
        BlackCabinet x = in(alike(9, 1, 2));
        x.byRule();
        bestIs(x, 0, 0, 0);
    }

    static void promise21_nobodyIsAwake() {
        BlackCabinet x = in(alike(9, 1, 2));
        bestIs(x, 2, 3, 4, 0, 1);
        x.sleeps(0);
        bestIs(x, 0, 0, 0);
        x.sleeps(0);
        bestIs(x, 2, 3, 4, 0, 1);
    }

    static void promise21_byNoon() {
        bestIs(in(alike(8, 1, 6)), 6, 63, 8, 0, 1, 2, 3, 4, 5);
        bestIs(in(alike(7, 1, 6)), 5, 31, 7, 0, 1, 2, 3, 4);
        bestIs(in(alike(3, 1, 6)), 1, 1, 3, 0);
        bestIs(in(alike(2, 1, 6)), 0, 0, 0);
    }

    static void promise21_mostWorth() {
        BlackCabinet x = in("noon 3;hand 0;court 1;letter 0 tongue 0 worth 98;letter 0 tongue 0 worth 99;letter 0 tongue 0 worth 97;"
            + "opens:1;copies:1;mends:1;");
        bestIs(x, 99, 2, 3, 1);
    }

    static void promise21_ofLikeOnesTheFewestLetters() {
        BlackCabinet x = in("noon 4;hand 0;court 1;letter 0 tongue 0 worth 2;letter 0 tongue 0 worth 2;"
            + "letter 0 tongue 0 worth 4 pages 2;opens:1;copies:pages;mends:1;");
        bestIs(x, 4, 4, 4, 2);
    }

    static void promise21_lettersOfNoWorthAreLeft() {
        BlackCabinet x = in("noon 99;hand 0;court 1;letter 0 tongue 0 worth 0;letter 0 tongue 0 worth 1;letter 0 tongue 0 worth 0;");
        bestIs(x, 1, 2, 10, 1);
        bestIs(in("noon 99;hand 0;court 1;letter 0 tongue 0 worth 0;"), 0, 0, 0);
    }

    static void promise21_ofLikeOnesTheFirstByNumbers() {
        bestIs(in(alike(3, 3, 6)), 1, 1, 3, 0);
        bestIs(in(alike(4, 3, 6)), 2, 3, 4, 0, 1);
        BlackCabinet x = in("noon 4;hand 1;hand 0;court 1;letter 0 tongue 0;letter 0 tongue 1;letter 0 tongue 0;"
            + "opens:1;copies:1;mends:1;");
        bestIs(x, 2, 3, 4, 1, 10);
    }

    static void promise21_handsComeAheadOfLetters() {
        BlackCabinet x = in("noon 3;hand 1;hand 0 1;court 1;letter 0 tongue 0;letter 0 tongue 1;opens:1;copies:1;mends:1;");
        bestIs(x, 1, 2, 3, 1);
    }

    static void promise21_theFirstRowEvenIfItEndsLater() {
        bestIs(in("noon 7;" + LONG_AND_SHORT), 1, 1, 7, 0);
        bestIs(in("noon 8;" + LONG_AND_SHORT), 2, 3, 8, 1, 0);
        bestIs(in("noon 9;" + LONG_AND_SHORT), 2, 3, 8, 1, 0);
        bestIs(in("noon 10;" + LONG_AND_SHORT), 2, 3, 10, 0, 1);
    }

    static void promise21_theMostLettersAndHands() {
        BlackCabinet x = in("noon 300;" + "hand 0;".repeat(3) + "court 1;" + "letter 0 tongue 0 worth 99;".repeat(6));
        bestIs(x, 594, 63, 35, 0, 1, 2, 3, 4, 5);
    }

    static void promise21_whatWasReadAndUndone() {
        BlackCabinet x = in(alike(4, 1, 4));
        bestIs(x, 2, 3, 4, 0, 1);
        x.byRule();
        bestIs(x, 2, 12, 4, 2, 3);
        x.undo(1);
        bestIs(x, 2, 3, 4, 0, 1);
    }

    static void promise21_anotherRoomHasAnotherBest() {
        BlackCabinet x = in(alike(9, 1, 2));
        bestIs(x, 2, 3, 4, 0, 1);
        read(x, alike(3, 1, 2));
        bestIs(x, 1, 1, 3, 0);
    }

    // ---- 22: bestAt

    static void promise22_notSoMany() {
        BlackCabinet x = in(FIRST);
        dueAll(x::bestAt, 2, 10, 11, -1, -1, -1, -1);
        due(x.bestAt(MAX), -1);
        due(new BlackCabinet().bestAt(0), -1);
        BlackCabinet y = in(alike(8, 1, 6));
        dueAll(y::bestAt, 0, 1, 2, 3, 4, 5, -1);
    }

    static void promise22_iBelow0() {
        due(in(FIRST).bestAt(-1), -3);
        due(in(FIRST).bestAt(MIN), -3);
        due(new BlackCabinet().bestAt(-1), -3);
    }

    // ---- 23: bestBy

    static void promise23_noonIs0To999() {
        BlackCabinet x = in(FIRST);
        due(x.bestBy(-1), -3);
        due(x.bestBy(1000), -3);
        due(x.bestBy(MIN), -3);
        due(x.bestBy(MAX), -3);
        due(x.bestBy(0), 0);
        due(x.bestBy(999), 17);
    }

    static void promise23_byThatNoon() {
        BlackCabinet x = in(FIRST);
        due(x.bestBy(26), 8);
        due(x.bestBy(27), 17);
        due(in(alike(3, 1, 6)).bestBy(8), 6);
        due(in(alike(3, 1, 6)).bestBy(7), 5);
        due(in(alike(300, 1, 6)).bestBy(2), 0);
        due(in(alike(300, 1, 6)).bestBy(3), 1);
    }

    static void promise23_by0() {
        due(in("noon 1;hand 0;court 1;letter 0 tongue 0 worth 7;opens:0;copies:0;mends:0;").bestBy(0), 7);
        due(in("noon 1;hand 0;court 1;letter 0 tongue 0 worth 7;opens:0;copies:1;mends:0;").bestBy(0), 0);
    }

    static void promise23_by999() {
        due(in(ALONE + "994;").bestBy(999), 7);
        due(in(ALONE + "994;").bestBy(998), 0);
        due(in(ALONE + "995;").bestBy(999), 0);
    }

    static void promise23_whatWasReadAndWhoSleeps() {
        BlackCabinet x = in(alike(3, 1, 3));
        x.byRule();
        due(x.bestBy(999), 2);
        x.sleeps(0);
        due(x.bestBy(999), 0);
        due(new BlackCabinet().bestBy(999), 0);
    }

    // ---- 24: noonFor

    static void promise24_worthBelow0() {
        due(in(FIRST).noonFor(-1), -3);
        due(in(FIRST).noonFor(MIN), -3);
        due(new BlackCabinet().noonFor(-1), -3);
    }

    static void promise24_noWorth() {
        due(in(FIRST).noonFor(0), 0);
        due(new BlackCabinet().noonFor(0), 0);
    }

    static void promise24_byNone() {
        due(in(FIRST).noonFor(18), -1);
        due(in(FIRST).noonFor(MAX), -1);
        due(new BlackCabinet().noonFor(1), -1);
    }

    static void promise24_theLeast() {
        BlackCabinet x = in(FIRST);
        int[][] due = {{1, 6}, {3, 6}, {4, 12}, {5, 12}, {6, 14}, {8, 14}, {9, 27}, {17, 27}};
        for (int[] d : due) {
            due("worth " + d[0], x.noonFor(d[0]), d[1]);
        }
        due(in("noon 1;" + LONG_AND_SHORT).noonFor(2), 8);
    }

    static void promise24_999IsTheLast() {
        due(in(ALONE + "993;").noonFor(7), 998);
        due(in(ALONE + "994;").noonFor(7), 999);
        due(in(ALONE + "995;").noonFor(7), -1);
        due(in(ALONE + "999;").noonFor(7), -1);
    }

    static void promise24_minuteNone() {
        due(in("noon 1;hand 0;court 1;letter 0 tongue 0 worth 7;opens:0;copies:0;mends:0;").noonFor(7), 0);
    }

    static void promise24_whatWasReadAndWhoSleeps() {
        BlackCabinet x = in(alike(3, 1, 3));
        due(x.noonFor(3), 5);
        x.byRule();
        due(x.noonFor(2), 4);
        due(x.noonFor(3), -1);
        x.sleeps(0);
        due(x.noonFor(1), -1);
        due(x.noonFor(0), 0);
    }

    // ---- 25: without

    static void promise25_noSuchHand() {
        BlackCabinet x = in(FIRST);
        dueAll(x::without, 9, 8, -2);
        due(x.without(-1), -2);
        due(x.without(MAX), -2);
        due(x.without(MIN), -2);
        due(new BlackCabinet().without(0), -2);
    }

    static void promise25_itSleeps() {
        BlackCabinet x = in(FIRST);
        x.sleeps(0);
        due(x.without(0), 0);
        due(x.without(1), 8);
        x.sleeps(1);
        due(x.without(1), 0);
    }

    static void promise25_anotherDoesAsWell() {
        BlackCabinet x = in(alike(9, 3, 6));
        dueAll(x::without, 0, 0, 0, -2);
    }

    static void promise25_theOnlyOne() {
        due(in(alike(8, 1, 6)).without(0), 6);
        BlackCabinet x = in(alike(8, 1, 6));
        x.byRule();
        due(x.without(0), 0);
    }

    // ---- 26: hindrance

    static void promise26_thereAreNone() {
        due(new BlackCabinet().hindrance(), -1);
        due(in("noon 9;hand 0;").hindrance(), -1);
    }

    static void promise26_allAreRead() {
        BlackCabinet x = in(alike(9, 1, 2));
        x.byRule();
        due(x.hindrance(), -1);
    }

    static void promise26_theOnlyOne() {
        due(in(alike(9, 1, 1)).hindrance(), 0);
        due(in("noon 9;court 1;letter 0 tongue 0;").hindrance(), 0);
        BlackCabinet x = in(alike(9, 1, 6));
        fill(x, 0, 0, 1, 2, 3, 4).morning(0);
        due(x.hindrance(), 5);
    }

    static void promise26_theFirstOfLikeOnes() {
        due(in(alike(9, 1, 3)).hindrance(), 0);
        due(in(alike(3, 1, 3)).hindrance(), 0);
        BlackCabinet x = in(alike(3, 1, 3));
        x.byRule();
        due(x.hindrance(), 1);
    }

    static void promise26_mostIsLeftForTheOthers() {
        due(in(FIRST).hindrance(), 1);
        BlackCabinet x = in("noon 99;hand 0;court 1;letter 0 tongue 0 worth 9;letter 0 tongue 0 worth 8;letter 0 tongue 0 worth 7;");
        due(x.hindrance(), 2);
    }

    static void promise26_notAllCanBeReadByNoon() {
        String room = "noon 3;hand 0;hand 1;court 1;letter 0 tongue 0 worth 9;letter 0 tongue 0 worth 8;letter 0 tongue 0 worth 7;"
            + "opens:1;copies:1;mends:1;";
        due(in(room).hindrance(), 1);
        BlackCabinet x = in(room);
        due(x.without(0), 9);
        due(x.hindrance(), 1);
    }

    // ---- 27: hopeless

    static void promise27_thereAreNone() {
        due(new BlackCabinet().hopeless(), 0);
        due(in(FIRST).hopeless(), 0);
    }

    static void promise27_nobodyReadsThem() {
        due(in("noon 99;hand 1;court 1;letter 0 tongue 0;letter 0 tongue 1;letter 0 tongue 2;").hopeless(), 5);
        due(in("noon 9;court 1;" + "letter 0 tongue 0;".repeat(6)).hopeless(), 63);
    }

    static void promise27_nobodyAwakeReadsThem() {
        BlackCabinet x = in(FIRST);
        x.sleeps(0);
        due(x.hopeless(), 4);
        x.sleeps(1);
        due(x.hopeless(), 7);
    }

    static void promise27_aloneByNoon() {
        due(in(alike(3, 1, 6)).hopeless(), 0);
        due(in(alike(2, 1, 6)).hopeless(), 63);
    }

    static void promise27_byTheQuickestHand() {
        BlackCabinet x = in("noon 9;hand 0;hand 0 skill 1;court 1;letter 0 tongue 0;opens:1;copies:8-skill;mends:1;");
        due(x.hopeless(), 0);
        x.sleeps(0);
        due(x.hopeless(), 0);
        x.sleeps(0);
        x.sleeps(1);
        due(x.hopeless(), 1);
    }

    static void promise27_readOnesArent() {
        BlackCabinet x = in(alike(9, 1, 2));
        fill(x, 0, 0).morning(0);
        x.sleeps(0);
        due(x.hopeless(), 2);
        x.undo(2);
        x.sleeps(0);
        due(x.hopeless(), 3);
    }
}
