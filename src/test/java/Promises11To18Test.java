/** Deeds: promises 11 to 18, with the terms of A MORNING, DRAWS, DEEDS, UNDONE and MORNINGS. */
public final class Promises11To18Test extends Cases {
    private static final int MIN = Integer.MIN_VALUE;
    private static final int MAX = Integer.MAX_VALUE;

    public static void main(String[] args) {
        run(Promises11To18Test.class, 11, 18);
    }

    private static int seedWith(int modulo, int rest) {
        int seed = 0;
        while (drawOf(seed) % modulo != rest) {
            seed++;
        }
        return seed;
    }

    private static int morningOf(BlackCabinet x, long... row) {
        return fill(x, 0, row).morning(0);
    }

    private static void judged(BlackCabinet x, int place, int why, long... deeds) {
        fill(x, 0, deeds);
        due(x.judge(0, 0), place);
        due(x.judge(0, 1), why);
    }

    // ---- 11: seed

    static void promise11_xIs0AtFirst() {
        due(new BlackCabinet().seed(5), 0);
    }

    static void promise11_anyInt() {
        BlackCabinet x = new BlackCabinet();
        x.seed(MIN);
        due(x.seed(MAX), MIN);
        due(x.seed(-1), MAX);
        due(x.seed(0), -1);
    }

    static void promise11_itCanBeUndoneAlsoIfXWasThat() {
        BlackCabinet x = new BlackCabinet();
        x.seed(0);
        due(x.count(9), 1);
        x.seed(8);
        due(x.undo(1), 1);
        due(drawn(x), 0);
        due(x.undo(1), 0);
    }

    // ---- 12: morning

    static void promise12_noSuchTray() {
        BlackCabinet x = in(FIRST);
        due(x.morning(-1), -2);
        due(x.morning(4), -2);
        due(x.morning(MIN), -2);
        due(x.morning(MAX), -2);
    }

    static void promise12_aMissingTray() {
        BlackCabinet x = in(FIRST);
        dueAll(x::morning, -6, -6, -6, -6);
    }

    static void promise12_theLastTray() {
        BlackCabinet x = in(alike(9, 1, 1));
        fill(x, 3, 0);
        x.morning(3);
        due(x.count(4), 1);
    }

    static void promise12_anEmptyRow() {
        BlackCabinet x = in(alike(9, 1, 1));
        x.seed(5);
        due(morningOf(x), 0);
        dueAll(x::count, 9, 1, 1, 1, 0, 0, 1, 1, 50, 2);
        due(drawn(x), 5);
        due(x.undo(1), 1);
        due(x.count(6), 0);
    }

    static void promise12_noSuchLetter() {
        BlackCabinet x = in(alike(20, 2, 3));
        for (int number : new int[] {3, 5, 6, 9, 13, 19}) {
            due("" + number, morningOf(x, number), -11);
        }
        BlackCabinet y = in(alike(20, 3, 6) + "shows:0;");
        due(morningOf(y, 6), -11);
        due(morningOf(y, 29), -11);
        due(morningOf(y, 5, 10, 24), 0);
        due(y.count(4), 49);
    }

    static void promise12_noSuchHand() {
        BlackCabinet x = in(alike(20, 2, 3));
        due(morningOf(x, 20), -11);
        due(morningOf(x, 22), -11);
        due(morningOf(in("noon 9;court 1;letter 0 tongue 0;"), 0), -11);
        due(morningOf(new BlackCabinet(), 0), -11);
    }

    static void promise12_noSuchNumber() {
        BlackCabinet x = in(alike(20, 3, 6));
        for (long number : new long[] {-1, -10, 30, 31, 100, 200, 300, 1L << 32, Long.MIN_VALUE, Long.MAX_VALUE}) {
            due("" + number, morningOf(x, number), -11);
        }
    }

    static void promise12_itWasRead() {
        BlackCabinet x = in(alike(20, 1, 2));
        morningOf(x, 0);
        due(morningOf(x, 0), -12);
        due(morningOf(x, 1, 0), -12);
    }

    static void promise12_itIsInTheRow() {
        due(morningOf(in(alike(20, 2, 2)), 0, 0), -12);
        due(morningOf(in(alike(20, 2, 2)), 0, 1, 10), -12);
        due(morningOf(in(alike(300, 1, 6)), 0, 1, 2, 3, 4, 5, 0), -12);
        due(morningOf(in(alike(300, 1, 6)), new long[40]), -12);
    }

    static void promise12_theHandSleeps() {
        BlackCabinet x = in(alike(20, 2, 2) + "shows:0;");
        x.sleeps(1);
        due(morningOf(x, 10), -12);
        x.sleeps(1);
        due(morningOf(x, 10), 0);
    }

    static void promise12_theHandDoesntReadIt() {
        due(morningOf(in("noon 99;hand 1 2 3;court 1;letter 0 tongue 0;"), 0), -12);
        due(morningOf(in("noon 99;hand 0 1 2;court 1;letter 0 tongue 3;"), 0), -12);
    }

    static void promise12_inTimeIsByNoon() {
        due(morningOf(in(alike(3, 1, 1) + "shows:0;"), 0), 0);
        due(morningOf(in(alike(2, 1, 1)), 0), -13);
        due(morningOf(in(alike(5, 1, 4) + "shows:0;"), 0, 1, 2), 0);
        due(morningOf(in(alike(5, 1, 4)), 0, 1, 2, 3), -13);
    }

    static void promise12_theFirstThatCantBe() {
        due(morningOf(in(alike(20, 1, 2)), 0, 9, 0), -11);
        due(morningOf(in(alike(20, 1, 2)), 0, 0, 9), -12);
        due(morningOf(in(alike(3, 1, 2)), 0, 1, 0, 9), -13);
    }

    static void promise12_ofOneNumberTheLeastReason() {
        BlackCabinet x = in(alike(3, 1, 2));
        due(morningOf(x, 0, 10), -11);
        due(morningOf(x, 0, 0), -12);
        due(morningOf(x, 0, 1), -13);
        morningOf(x, 0);
        due(morningOf(x, 10), -11);
        due(morningOf(x, 1, 0), -12);
    }

    static void promise12_aDrawIsBelowHowLikely() {
        due(drawOf(0), 0);
        due(morningOf(in(alike(9, 1, 1) + "shows:0;"), 0), 0);
        due(morningOf(in(alike(9, 1, 1) + "shows:1;"), 0), 1);
        for (int rest : new int[] {1, 10, 50, 99}) {
            for (int more = 0; more < 2; more++) {
                BlackCabinet x = in(alike(9, 1, 1) + "shows:" + (rest + more) + ";");
                x.seed(seedWith(100, rest));
                due(morningOf(x, 0), more);
                due(x.count(5), more);
            }
        }
    }

    static void promise12_xWrapsAround() {
        int[][] steps = {{0, 12345}, {2, -2087924461}, {-1, -1103502900}, {MAX, 1043980748}, {MIN, MIN + 12345}};
        for (int[] step : steps) {
            BlackCabinet x = in(alike(9, 1, 1));
            x.seed(step[0]);
            morningOf(x, 0);
            due("x " + step[0], drawn(x), step[1]);
        }
    }

    static void promise12_aDrawHasNoSign() {
        BlackCabinet x = in(alike(9, 1, 1) + "shows:76;");
        x.seed(2);
        due(morningOf(x, 0), 0);
        BlackCabinet y = in(alike(9, 1, 1) + "shows:77;");
        y.seed(2);
        due(morningOf(y, 0), 1);
    }

    static void promise12_oneBehindTheOtherAsInTheRow() {
        int seed = 0;
        while (drawOf(seed) % 100 >= 50 || drawOf(next(seed)) % 100 < 50) {
            seed++;
        }
        BlackCabinet x = in(alike(9, 1, 2) + "shows:50;");
        x.seed(seed);
        due(morningOf(x, 1, 0), 1);
        due(x.count(5), 2);
        due(drawn(x), next(next(seed)));
    }

    static void promise12_allOrNoneAreFoundOut() {
        BlackCabinet x = in(alike(300, 1, 6) + "shows:100;");
        due(morningOf(x, 0, 1, 2, 3, 4, 5), 6);
        due(x.count(5), 63);
        BlackCabinet y = in(alike(300, 1, 6) + "shows:0;");
        due(morningOf(y, 0, 1, 2, 3, 4, 5), 0);
        due(y.count(4), 63);
        due(y.count(5), 0);
    }

    static void promise12_foundOutOnesOfOtherDaysDontCount() {
        BlackCabinet x = in(alike(9, 1, 2) + "shows:100;");
        due(morningOf(x, 0), 1);
        due(morningOf(x, 1), 1);
        due(x.count(5), 3);
        due(x.count(6), 2);
    }

    // ---- 13: byRule

    static void promise13_noneIsLeft() {
        BlackCabinet x = in(alike(9, 1, 2));
        due(x.byRule(), 3);
        due(x.byRule(), 0);
        due(x.count(6), 2);
    }

    static void promise13_nobodyIsAwake() {
        BlackCabinet x = in(alike(9, 1, 2));
        x.sleeps(0);
        due(x.byRule(), 0);
        due(x.count(6), 1);
        due(in("noon 9;court 1;letter 0 tongue 0;").byRule(), 0);
    }

    static void promise13_withoutARoom() {
        BlackCabinet x = new BlackCabinet();
        due(x.byRule(), 0);
        due(x.count(6), 1);
        due(x.undo(1), 0);
        due(x.count(6), 0);
    }

    static void promise13_inTimeIsByNoon() {
        BlackCabinet x = in(alike(5, 1, 4));
        due(x.byRule(), 7);
        due(x.byRule(), 8);
        due(in(alike(3, 1, 1)).byRule(), 1);
        due(in(alike(2, 1, 1)).byRule(), 0);
    }

    static void promise13_oneThatIsLeftLeavesTheOthers() {
        BlackCabinet x = in("noon 10;hand 0;court 1;letter 0 tongue 0 pages 9;letter 0 tongue 0;opens:1;copies:pages;mends:1;");
        due(x.byRule(), 2);
        due(x.byRule(), 0);
    }

    static void promise13_lettersAreReadFoundOutAndDrawn() {
        BlackCabinet x = in(alike(9, 1, 3) + "shows:100;");
        due(x.byRule(), 7);
        due(x.count(4), 7);
        due(x.count(5), 7);
        due(drawn(x), next(next(next(0))));
    }

    // ---- 14: sleeps

    static void promise14_noSuchHand() {
        BlackCabinet x = in(alike(9, 2, 1));
        due(x.sleeps(2), -2);
        due(x.sleeps(-1), -2);
        due(x.sleeps(MAX), -2);
        due(x.sleeps(MIN), -2);
        due(in(alike(9, 3, 1)).sleeps(2), 0);
        due(in(alike(9, 3, 1)).sleeps(3), -2);
    }

    static void promise14_itSleepsAndWakes() {
        BlackCabinet x = in(alike(9, 3, 1));
        due(x.sleeps(1), 0);
        due(x.count(7), 5);
        due(x.sleeps(1), 1);
        due(x.count(7), 7);
        due(x.count(6), 0);
    }

    static void promise14_allMaySleep() {
        BlackCabinet x = in(alike(9, 3, 1));
        dueAll(x::sleeps, 0, 0, 0, -2);
        due(x.count(7), 0);
    }

    // ---- 15: undo

    static void promise15_fewerThan1() {
        BlackCabinet x = in(alike(9, 1, 1));
        x.sleeps(0);
        due(x.undo(0), -3);
        due(x.undo(-1), -3);
        due(x.undo(MIN), -3);
    }

    static void promise15_moreThan10() {
        BlackCabinet x = in(alike(9, 1, 1));
        for (int i = 0; i < 11; i++) {
            x.sleeps(0);
        }
        due(x.undo(11), -3);
        due(x.undo(MAX), -3);
        due(x.undo(10), 0);
    }

    static void promise15_moreThanCanBe() {
        BlackCabinet x = in(alike(9, 1, 1));
        due(x.undo(1), -3);
        x.sleeps(0);
        x.sleeps(0);
        due(x.undo(3), -3);
        due(x.undo(2), 0);
        due(x.undo(1), -3);
    }

    static void promise15_theEldestAreForgotten() {
        BlackCabinet x = new BlackCabinet();
        for (int i = 1; i <= 9; i++) {
            x.seed(i);
        }
        due(x.count(9), 9);
        x.seed(10);
        due(x.count(9), 10);
        x.seed(11);
        due(x.count(9), 10);
        due(x.undo(10), 0);
        due(drawn(x), 1);
    }

    static void promise15_roundAndRound() {
        BlackCabinet x = new BlackCabinet();
        for (int i = 1; i <= 37; i++) {
            x.seed(i);
        }
        due(x.undo(4), 6);
        due(x.seed(100), 33);
        due(x.undo(1), 6);
        due(x.undo(6), 0);
        due(drawn(x), 27);
    }

    static void promise15_theLatestFirst() {
        BlackCabinet x = in(alike(9, 1, 1));
        x.byRule();
        x.sleeps(0);
        due(x.undo(1), 1);
        due(x.count(7), 1);
        due(x.count(4), 1);
        due(x.undo(1), 0);
        due(x.count(4), 0);
    }

    static void promise15_allThatComesBack() {
        BlackCabinet x = in(alike(3, 2, 3) + "shows:100;");
        x.seed(5);
        morningOf(x, 0);
        x.sleeps(1);
        due(fill(x, 0, 300, 301, 200, 1, 100).perform(0), 3);
        due(x.byRule(), 4);
        dueAll(x::count, 3, 2, 1, 3, 7, 7, 3, 2, 50, 5);
        due(x.undo(2), 3);
        dueAll(x::count, 3, 2, 1, 3, 1, 1, 1, 1, 50, 3);
        due(drawn(x), next(5));
    }

    static void promise15_whatWasUndoneIsGone() {
        BlackCabinet x = in(alike(9, 1, 1));
        x.sleeps(0);
        x.undo(1);
        due(x.count(9), 0);
        due(x.undo(1), -3);
    }

    static void promise15_callsThatAskAreNotCounted() {
        BlackCabinet x = in(FIRST);
        fill(x, 0, 10, 100);
        x.judge(0, 2);
        x.best(0);
        x.rule(0);
        x.slept(1);
        x.row(0, 2);
        x.image(0);
        x.lists(0);
        due(x.count(9), 0);
    }

    static void promise15_refusedCallsAreNotCounted() {
        BlackCabinet x = in(FIRST);
        x.morning(0);
        x.sleeps(2);
        x.mornings(1, 0);
        x.perform(4);
        morningOf(x, 9);
        due(x.count(9), 0);
    }

    // ---- 16: judge

    static void promise16_noSuchTrayOrWhat() {
        BlackCabinet x = in(FIRST);
        due(x.judge(-1, 0), -2);
        due(x.judge(4, 0), -2);
        due(x.judge(0, -1), -2);
        due(x.judge(0, 4), -2);
        fill(x, 0);
        due(x.judge(0, -1), -2);
        due(x.judge(0, 4), -2);
        due(x.judge(0, MAX), -2);
        due(x.judge(MIN, 0), -2);
    }

    static void promise16_aMissingTray() {
        BlackCabinet x = in(FIRST);
        dueAll(what -> x.judge(3, what), -6, -6, -6, -6, -2);
    }

    static void promise16_noDeeds() {
        BlackCabinet x = in(alike(9, 1, 1));
        x.byRule();
        fill(x, 0);
        dueAll(what -> x.judge(0, what), -1, 0, 1, 1, -2);
    }

    static void promise16_noDeedsBehindSomeThatCantBe() {
        BlackCabinet x = in(alike(9, 1, 1));
        judged(x, 1, 2, 0, 0);
        judged(x, -1, 0);
    }

    static void promise16_allCanBe() {
        BlackCabinet x = in(alike(9, 1, 2));
        fill(x, 0, 1, 100, 200);
        dueAll(what -> x.judge(0, what), -1, 0, 3, 2);
    }

    static void promise16_fortyDeeds() {
        BlackCabinet x = in(alike(9, 1, 1));
        long[] deeds = new long[40];
        java.util.Arrays.fill(deeds, 100);
        fill(x, 0, deeds);
        dueAll(what -> x.judge(0, what), -1, 0, 0, 40);
        deeds[39] = 9;
        fill(x, 0, deeds);
        dueAll(what -> x.judge(0, what), 39, 1, 0, 39);
    }

    static void promise16_numbersThatAreNoDeeds() {
        BlackCabinet x = in(alike(20, 3, 6));
        for (long v : new long[] {Long.MIN_VALUE, -300, -1, 6, 9, 26, 29, 30, 99, 101, 199, 201, 299, 303, 310, 400, 1L << 32,
            (1L << 32) + 100, Long.MAX_VALUE}) {
            judged(x, 0, 1, v);
        }
    }

    static void promise16_numbersThatAreDeeds() {
        BlackCabinet x = in(alike(20, 3, 6));
        for (long v : new long[] {0, 5, 10, 15, 20, 25, 100, 200, 300, 301, 302}) {
            judged(x, -1, 0, v);
        }
        judged(in(alike(20, 2, 6)), 0, 1, 302);
        judged(in("noon 9;"), 0, 1, 300);
    }

    static void promise16_aDeedThatIsCutIsAnother() {
        BlackCabinet x = in(alike(20, 1, 1));
        x.numbers(0, 0, 1);
        x.write(0, 0, 200);
        due(x.judge(0, 1), 1);
        x.write(0, 0, 256);
        due(x.judge(0, 1), 0);
    }

    static void promise16_whyNot2() {
        BlackCabinet x = in("noon 99;hand 0;hand 1;court 1;letter 0 tongue 0;letter 0 tongue 1;");
        judged(x, 1, 2, 0, 0);
        judged(x, 2, 2, 0, 100, 0);
        judged(x, 0, 2, 10);
        judged(x, 1, 2, 300, 0);
        judged(x, -1, 0, 300, 300, 0);
    }

    static void promise16_whyNot3() {
        BlackCabinet x = in(alike(4, 1, 3));
        judged(x, 2, 3, 0, 1, 2);
        judged(x, -1, 0, 0, 1, 100, 2);
    }

    static void promise16_theRowIsNoneBehindAMorning() {
        BlackCabinet x = in(alike(3, 1, 2));
        fill(x, 0, 0, 100, 1, 100);
        dueAll(what -> x.judge(0, what), -1, 0, 3, 2);
        fill(x, 0, 0, 100, 100);
        dueAll(what -> x.judge(0, what), -1, 0, 1, 2);
    }

    static void promise16_theRowStaysAwayByRuleAndIsNoneThen() {
        BlackCabinet x = in(alike(3, 1, 2));
        fill(x, 0, 1, 200);
        dueAll(what -> x.judge(0, what), -1, 0, 1, 1);
        fill(x, 0, 1, 200, 1, 100);
        dueAll(what -> x.judge(0, what), -1, 0, 3, 2);
        fill(x, 0, 1, 200, 100);
        dueAll(what -> x.judge(0, what), -1, 0, 1, 2);
    }

    static void promise16_aHandMaySleepBehindItsLetter() {
        BlackCabinet x = in(alike(9, 1, 2));
        fill(x, 0, 0, 300, 100, 1);
        dueAll(what -> x.judge(0, what), 3, 2, 1, 1);
    }

    static void promise16_whatIsInTheRowAtTheEndIsNotRead() {
        BlackCabinet x = in(alike(9, 1, 2));
        fill(x, 0, 0, 100, 1);
        dueAll(what -> x.judge(0, what), -1, 0, 1, 1);
    }

    static void promise16_whatStandsBehindOneThatCantBeIsNotDone() {
        BlackCabinet x = in(alike(9, 1, 2));
        fill(x, 0, 0, 9, 100, 100);
        dueAll(what -> x.judge(0, what), 1, 1, 0, 0);
    }

    static void promise16_nothingIsDone() {
        BlackCabinet x = in(alike(9, 1, 2) + "shows:100;");
        fill(x, 0, 0, 100, 300);
        x.judge(0, 2);
        dueAll(x::count, 9, 1, 1, 2, 0, 0, 0, 1, 50, 0);
        due(drawn(x), 0);
    }

    static void promise16_fromWhatWasDone() {
        BlackCabinet x = in(alike(9, 2, 2));
        x.sleeps(1);
        morningOf(x, 0);
        judged(x, 0, 2, 0);
        judged(x, 0, 2, 11);
        judged(x, -1, 0, 1);
        judged(x, -1, 0, 301, 11, 100);
        due(x.judge(0, 2), 3);
        due(x.judge(0, 3), 2);
    }

    // ---- 17: perform

    static void promise17_noSuchTray() {
        BlackCabinet x = in(FIRST);
        due(x.perform(-1), -2);
        due(x.perform(4), -2);
        due(x.perform(MIN), -2);
    }

    static void promise17_aMissingTray() {
        BlackCabinet x = in(FIRST);
        dueAll(x::perform, -6, -6, -6, -6);
    }

    static void promise17_noneIsDone() {
        BlackCabinet x = in(alike(9, 1, 2));
        due(fill(x, 0).perform(0), 0);
        due(fill(x, 0, 9, 100).perform(0), 0);
        due(x.count(6), 0);
        due(x.count(9), 0);
    }

    static void promise17_tillOneCantBe() {
        BlackCabinet x = in(alike(9, 2, 3) + "shows:100;");
        due(fill(x, 0, 0, 100, 300, 11, 2, 100).perform(0), 4);
        dueAll(x::count, 9, 2, 1, 3, 1, 1, 1, 2, 50, 1);
        due(drawn(x), next(0));
    }

    static void promise17_allAreDone() {
        BlackCabinet x = in(alike(9, 2, 3));
        due(fill(x, 0, 0, 11, 100, 200).perform(0), 4);
        due(x.count(4), 7);
        due(x.count(6), 2);
        long[] deeds = new long[40];
        java.util.Arrays.fill(deeds, 300);
        due(fill(x, 0, deeds).perform(0), 40);
        due(x.count(7), 3);
    }

    static void promise17_whatIsInTheRowThenIsLeft() {
        BlackCabinet x = in(alike(3, 1, 2));
        due(fill(x, 0, 0).perform(0), 1);
        due(x.count(4), 0);
        due(fill(x, 0, 1, 100).perform(0), 2);
        due(x.count(4), 2);
    }

    static void promise17_itIsUndoneAsAWhole() {
        BlackCabinet x = in(alike(9, 2, 3) + "shows:100;");
        x.seed(3);
        fill(x, 0, 0, 100, 300, 200).perform(0);
        due(x.count(9), 2);
        due(x.undo(1), 1);
        dueAll(x::count, 9, 2, 1, 3, 0, 0, 0, 3, 50, 1);
        due(drawn(x), 3);
    }

    static void promise17_oneDeedCanBeUndone() {
        BlackCabinet x = in(alike(9, 1, 1));
        due(fill(x, 0, 0).perform(0), 1);
        due(x.count(9), 1);
        due(fill(x, 0, 300, 9).perform(0), 1);
        due(x.count(9), 2);
        due(x.undo(1), 1);
        due(x.count(7), 1);
    }

    // ---- 18: mornings

    static void promise18_howManyTimes() {
        BlackCabinet x = in(alike(9, 1, 1));
        due(x.mornings(1, 0), -3);
        due(x.mornings(1, 31), -3);
        due(x.mornings(1, -1), -3);
        due(x.mornings(1, MAX), -3);
        due(x.mornings(1, MIN), -3);
        due(x.mornings(0, 1), 1);
        due(x.mornings(0, 30), 1);
    }

    static void promise18_withoutHands() {
        due(new BlackCabinet().mornings(1, 1), -5);
        due(in("noon 9;court 1;letter 0 tongue 0;").mornings(1, 30), -5);
    }

    static void promise18_howManyTimesIsToldFirst() {
        due(new BlackCabinet().mornings(1, 0), -3);
        due(new BlackCabinet().mornings(1, 31), -3);
    }

    static void promise18_drawModulo3Is0() {
        BlackCabinet x = in(alike(300, 3, 6) + "shows:100;");
        due(x.mornings(0, 1), 63);
        due(x.count(5), 63);
        due(x.count(6), 1);
        int drawn = 0;
        for (int i = 0; i < 7; i++) {
            drawn = next(drawn);
        }
        due(drawn(x), drawn);
    }

    static void promise18_drawModulo3Is1Or2() {
        for (int rest = 1; rest < 3; rest++) {
            int seed = seedWith(3, rest);
            BlackCabinet x = in(alike(300, 3, 6));
            due(x.mornings(seed, 1), 0);
            due(x.count(6), 0);
            due(x.count(7), 7 & ~(1 << drawOf(next(seed)) % 3));
            due(drawn(x), next(next(seed)));
        }
    }

    static void promise18_asOftenAsTold() {
        for (int times = 1; times <= 30; times++) {
            for (int hands = 1; hands <= 3; hands++) {
                int seed = 1000003 * times + hands;
                BlackCabinet x = in("noon 9;" + "hand 0;".repeat(hands));
                int drawn = seed;
                int days = 0;
                int awake = (1 << hands) - 1;
                for (int i = 0; i < times; i++) {
                    drawn = next(drawn);
                    if ((drawn >>> 16) % 3 == 0) {
                        days++;
                    } else {
                        drawn = next(drawn);
                        awake ^= 1 << (drawn >>> 16) % hands;
                    }
                }
                due(x.mornings(seed, times), 0);
                due(x.count(6), days);
                due(x.count(7), awake);
                due(drawn(x), drawn);
            }
        }
    }

    static void promise18_lettersReadAheadCountToo() {
        BlackCabinet x = in(alike(300, 1, 2));
        morningOf(x, 1);
        x.sleeps(0);
        due(x.mornings(0, 1), 2);
    }

    static void promise18_itIsUndoneAsAWhole() {
        BlackCabinet x = in(alike(300, 3, 6));
        x.seed(4);
        x.mornings(99, 30);
        due(x.count(9), 2);
        due(x.undo(1), 1);
        dueAll(x::count, 300, 3, 1, 6, 0, 0, 0, 7, 50, 1);
        due(drawn(x), 4);
    }
}
