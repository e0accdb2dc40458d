/** By rule: promises 28 to 31, with the term BY RULE. */
public final class Promises28To31Test extends Cases {
    private static final int MIN = Integer.MIN_VALUE;
    private static final int MAX = Integer.MAX_VALUE;
    /** The second hand copies in a minute less. */
    private static final String SLOW_AND_QUICK = "hand 0;hand 0 skill 1;court 1;letter 0 tongue 0;letter 0 tongue 0;"
        + "opens:1;copies:8-skill;mends:1;";

    public static void main(String[] args) {
        run(Promises28To31Test.class, 28, 31);
    }

    // ---- 28: rule

    static void promise28_noSuchWhat() {
        BlackCabinet x = in(FIRST);
        dueAll(x::rule, 3, 8, 15, -2);
        due(x.rule(-1), -2);
        due(x.rule(MIN), -2);
        due(x.rule(MAX), -2);
    }

    static void promise28_nothing() {
        dueAll(new BlackCabinet()::rule, 0, 0, 0, -2);
        dueAll(in("noon 9;court 1;letter 0 tongue 0;")::rule, 0, 0, 0);
        BlackCabinet x = in(alike(9, 1, 2));
        x.byRule();
        dueAll(x::rule, 0, 0, 0);
    }

    static void promise28_nobodyIsAwake() {
        BlackCabinet x = in(alike(9, 2, 2));
        x.sleeps(0);
        dueAll(x::rule, 3, 2, 4);
        x.sleeps(1);
        dueAll(x::rule, 0, 0, 0);
    }

    static void promise28_byNoon() {
        dueAll(in(alike(8, 1, 6))::rule, 63, 6, 8);
        dueAll(in(alike(7, 1, 6))::rule, 31, 5, 7);
        dueAll(in(alike(3, 1, 6))::rule, 1, 1, 3);
        dueAll(in(alike(2, 1, 6))::rule, 0, 0, 0);
    }

    static void promise28_oneThatIsLeftTakesNoMinutes() {
        BlackCabinet x = in("noon 10;hand 0;court 1;letter 0 tongue 0 pages 9;letter 0 tongue 0 worth 7;letter 0 tongue 1;"
            + "letter 0 tongue 0;opens:1;copies:pages;mends:1;");
        dueAll(x::rule, 10, 8, 4);
    }

    static void promise28_oneThatIsLeftKeepsNoHandBusy() {
        BlackCabinet x = in("noon 10;hand 0;court 1;letter 0 tongue 0 pages 4;letter 0 tongue 0 pages 9;letter 0 tongue 0;"
            + "opens:1;copies:pages;mends:1;");
        dueAll(x::rule, 5, 2, 7);
    }

    static void promise28_oneThatIsLeftKeepsNoTableBusy() {
        BlackCabinet x = in("noon 10;hand 0;hand 0;court 1;letter 0 tongue 0 pages 5 seal 1;letter 0 tongue 0 seal 9;"
            + "letter 0 tongue 0 seal 1;opens:1;copies:pages;mends:seal;");
        dueAll(x::rule, 5, 2, 7);
        dueAll(x::ruleBy, 0, -1, 1);
    }

    static void promise28_lettersOfNoWorthAreTaken() {
        dueAll(in("noon 9;hand 0;court 1;letter 0 tongue 0 worth 0;copies:1;")::rule, 1, 0, 6);
    }

    static void promise28_nothingIsDone() {
        BlackCabinet x = in(FIRST);
        x.rule(0);
        dueAll(x::count, 30, 2, 2, 3, 0, 0, 0, 3, 50, 0);
    }

    // ---- 29: ruleBy

    static void promise29_noSuchLetter() {
        BlackCabinet x = in(FIRST);
        due(x.ruleBy(3), -2);
        due(x.ruleBy(-1), -2);
        due(x.ruleBy(MIN), -2);
        due(x.ruleBy(MAX), -2);
        due(new BlackCabinet().ruleBy(0), -2);
    }

    static void promise29_itWouldnt() {
        BlackCabinet x = in(FIRST);
        dueAll(x::ruleBy, 1, 1, -1, -2);
        x.byRule();
        dueAll(x::ruleBy, -1, -1, 0, -2);
    }

    static void promise29_theSoonest() {
        dueAll(in("noon 9;" + SLOW_AND_QUICK)::ruleBy, 1, -1, -2);
        dueAll(in("noon 99;" + SLOW_AND_QUICK)::ruleBy, 1, 0, -2);
    }

    static void promise29_ofLikeOnesTheFirst() {
        dueAll(in(alike(99, 3, 6))::ruleBy, 0, 0, 0, 0, 0, 0, -2);
        BlackCabinet x = in(alike(99, 3, 6));
        x.sleeps(0);
        dueAll(x::ruleBy, 1, 1, 1, 1, 1, 1, -2);
    }

    static void promise29_theOtherIsBusy() {
        BlackCabinet x = in("noon 99;" + "hand 0;".repeat(3) + "court 1;" + "letter 0 tongue 0;".repeat(6) + "opens:1;copies:2;mends:0;");
        dueAll(x::ruleBy, 0, 1, 0, 1, 0, 1, -2);
        BlackCabinet y = in("noon 99;" + "hand 0;".repeat(3) + "court 1;" + "letter 0 tongue 0;".repeat(6) + "opens:0;copies:2;mends:0;");
        dueAll(y::ruleBy, 0, 1, 2, 0, 1, 2, -2);
    }

    // ---- 30: slept

    static void promise30_othersThanLetters() {
        BlackCabinet x = in(FIRST);
        due(x.slept(8), -3);
        due(x.slept(-1), -3);
        due(x.slept(MIN), -3);
        due(x.slept(MAX), -3);
        due(in(alike(8, 1, 6)).slept(64), -3);
        due(in(alike(8, 1, 6)).slept(63), 1);
        due(new BlackCabinet().slept(1), -3);
    }

    static void promise30_howManySets() {
        BlackCabinet x = in(FIRST);
        dueAll(x::slept, 1, 1, 0, 2, 0, 0, 0, 0, -3);
        BlackCabinet y = in(alike(9, 3, 2));
        dueAll(y::slept, 1, 0, 0, 7, -3);
    }

    static void promise30_withoutHandsOrLetters() {
        due(new BlackCabinet().slept(0), 1);
        due(in("noon 9;hand 0;hand 0;hand 0;").slept(0), 8);
        due(in("noon 9;court 1;letter 0 tongue 0;").slept(0), 1);
        due(in("noon 9;court 1;letter 0 tongue 0;").slept(1), 0);
    }

    static void promise30_readOrNotAndWhoeverSleepsNow() {
        BlackCabinet x = in(FIRST);
        x.byRule();
        x.sleeps(0);
        x.sleeps(1);
        dueAll(x::slept, 1, 1, 0, 2, 0, 0, 0, 0, -3);
        due(x.count(7), 0);
    }

    // ---- 31: sleeper

    static void promise31_othersThanLetters() {
        BlackCabinet x = in(FIRST);
        due(x.sleeper(8), -3);
        due(x.sleeper(-1), -3);
        due(x.sleeper(MIN), -3);
        due(x.sleeper(MAX), -3);
        due(in(alike(8, 1, 6)).sleeper(64), -3);
        due(in(alike(8, 1, 6)).sleeper(63), 0);
        due(new BlackCabinet().sleeper(1), -3);
    }

    static void promise31_inAllOfThese() {
        BlackCabinet x = in(FIRST);
        dueAll(x::sleeper, 3, 2, 0, 0);
        BlackCabinet y = in("noon 9;hand 0;hand 1;hand 0;court 1;letter 0 tongue 0;letter 0 tongue 1;opens:1;copies:1;mends:1;");
        dueAll(y::slept, 1, 3, 1, 3);
        dueAll(y::sleeper, 7, 2, 5, 0);
    }

    static void promise31_withoutAny() {
        due(in(FIRST).slept(7), 0);
        due(in(FIRST).sleeper(7), 0);
        due(new BlackCabinet().sleeper(0), 0);
    }

    static void promise31_readOrNotAndWhoeverSleepsNow() {
        BlackCabinet x = in(FIRST);
        x.byRule();
        x.sleeps(0);
        dueAll(x::sleeper, 3, 2, 0, 0);
    }
}
