/** What to believe: promises 35 to 37, with the term BELIEF. */
public final class Promises35To37Test extends Cases {
    private static final int MIN = Integer.MIN_VALUE;
    private static final int MAX = Integer.MAX_VALUE;
    /** A court that always tells the truth and one that never does. */
    private static final String SURE = "noon 300;hand 0;court 100;court 0;letter 0 tongue 0 says yes;letter 0 tongue 0 says no;"
        + "letter 1 tongue 0 says no;copies:1;";

    public static void main(String[] args) {
        run(Promises35To37Test.class, 35, 37);
    }

    private static void beliefIs(BlackCabinet x, int set, long above, long below) {
        due("above by " + set, x.belief(set, 0), above);
        due("below by " + set, x.belief(set, 1), below);
    }

    // ---- 35: belief

    static void promise35_othersThanLetters() {
        BlackCabinet x = in(FIRST);
        for (int set : new int[] {8, 15, -1, MIN, MAX}) {
            beliefIs(x, set, -3, -3);
        }
        beliefIs(new BlackCabinet(), 1, -3, -3);
        beliefIs(in("noon 9;court 1;" + "letter 0 tongue 0;".repeat(6)), 64, -3, -3);
        beliefIs(in("noon 9;court 1;" + "letter 0 tongue 0;".repeat(6)), 63, 1, 2);
    }

    static void promise35_noSuchWhat() {
        BlackCabinet x = in(FIRST);
        due(x.belief(0, 2), -2);
        due(x.belief(0, -1), -2);
        due(x.belief(0, MIN), -2);
        due(x.belief(0, MAX), -2);
    }

    static void promise35_whatIsToldFirst() {
        due(in(FIRST).belief(8, 2), -2);
        due(in(FIRST).belief(-1, -1), -2);
    }

    static void promise35_noLetters() {
        beliefIs(new BlackCabinet(), 0, 1, 2);
        beliefIs(in("noon 9;prior 0;"), 0, 0, 1);
        beliefIs(in("noon 9;prior 100;"), 0, 1, 1);
        beliefIs(in("noon 9;prior 1;"), 0, 1, 100);
        beliefIs(in("noon 9;prior 99;"), 0, 99, 100);
        beliefIs(in("noon 9;prior 60;"), 0, 3, 5);
    }

    static void promise35_inLowestTerms() {
        BlackCabinet x = in(FIRST);
        long[][] beliefs = {{0, 1, 2}, {1, 4, 5}, {2, 7, 10}, {3, 28, 31}, {4, 1, 2}, {5, 4, 5}, {6, 7, 10}, {7, 28, 31}};
        for (long[] b : beliefs) {
            beliefIs(x, (int) b[0], b[1], b[2]);
        }
    }

    static void promise35_sureOnes() {
        BlackCabinet x = in(SURE);
        beliefIs(x, 1, 1, 1);
        beliefIs(x, 2, 0, 1);
        beliefIs(x, 4, 1, 1);
        beliefIs(x, 5, 1, 1);
    }

    static void promise35_noSuchThingCanBe() {
        BlackCabinet x = in(SURE);
        beliefIs(x, 3, 0, 0);
        beliefIs(x, 7, 0, 0);
        beliefIs(in(SURE + "prior 0;"), 1, 0, 0);
        beliefIs(in(SURE + "prior 100;"), 2, 0, 0);
        beliefIs(in(SURE + "prior 100;"), 1, 1, 1);
        beliefIs(in(SURE + "prior 0;"), 2, 0, 1);
    }

    static void promise35_whatSaysNothingChangesNothing() {
        BlackCabinet x = in("noon 9;court 100;court 0;letter 0 tongue 0;letter 1 tongue 0;letter 0 tongue 0 says no;prior 70;");
        beliefIs(x, 3, 7, 10);
        beliefIs(x, 7, 0, 1);
    }

    static void promise35_greatNumbers() {
        String yes = "letter 0 tongue 0 says yes;";
        beliefIs(in("noon 9;court 99;prior 99;" + yes.repeat(6)), 63, 93206534790699L, 93206534790700L);
        beliefIs(in("noon 9;court 1;prior 1;" + yes.repeat(6)), 63, 1, 93206534790700L);
        beliefIs(in("noon 9;court 100;prior 100;" + yes.repeat(6)), 63, 1, 1);
        beliefIs(in("noon 9;court 50;prior 50;" + yes.repeat(6)), 63, 1, 2);
    }

    // ---- 36: now

    static void promise36_noneIsRead() {
        due(new BlackCabinet().now(), 5000);
        due(in("noon 9;prior 0;").now(), 0);
        due(in("noon 9;prior 100;").now(), 10000);
        due(in("noon 9;prior 1;").now(), 100);
    }

    static void promise36_cut() {
        BlackCabinet x = in(FIRST);
        due(x.now(), 5000);
        fill(x, 0, 10).morning(0);
        due(x.now(), 8000);
        fill(x, 0, 11).morning(0);
        due(x.now(), 9032);
        BlackCabinet y = in("noon 99;hand 0;court 99;" + "letter 0 tongue 0 says yes;".repeat(6) + "prior 99;");
        y.byRule();
        due(y.count(4), 63);
        due(y.now(), 9999);
    }

    static void promise36_noSuchThingCanBe() {
        BlackCabinet x = in(SURE);
        due(x.now(), 5000);
        x.byRule();
        due(x.count(4), 7);
        due(x.now(), -1);
        x.undo(1);
        due(x.now(), 5000);
    }

    static void promise36_sure() {
        BlackCabinet x = in(SURE);
        fill(x, 0, 0).morning(0);
        due(x.now(), 10000);
        x.undo(1);
        fill(x, 0, 1).morning(0);
        due(x.now(), 0);
    }

    static void promise36_theMostOfAll() {
        BlackCabinet x = in("noon 300;hand 0;court 100;" + "letter 0 tongue 0 says yes;".repeat(6) + "prior 100;copies:1;");
        x.byRule();
        due(x.count(4), 63);
        due(x.now(), 10000);
    }

    // ---- 37: tellsMost

    static void promise37_thereAreNone() {
        due(new BlackCabinet().tellsMost(), -1);
        BlackCabinet x = in("noon 99;hand 0;court 80;letter 0 tongue 0 says yes;");
        due(x.tellsMost(), 0);
        x.byRule();
        due(x.tellsMost(), -1);
    }

    static void promise37_byNone() {
        due(in("noon 9;court 80;letter 0 tongue 0;").tellsMost(), -1);
        due(in("noon 9;court 50;letter 0 tongue 0 says yes;").tellsMost(), -1);
        due(in("noon 9;court 80;letter 0 tongue 0 says yes;prior 0;").tellsMost(), -1);
        due(in("noon 9;court 80;letter 0 tongue 0 says yes;prior 100;").tellsMost(), -1);
    }

    static void promise37_lessThanOneIn10000IsNoChange() {
        BlackCabinet x = in("noon 99;hand 0;court 99;" + "letter 0 tongue 0 says yes;".repeat(4) + "prior 99;copies:1;");
        due(x.tellsMost(), 0);
        fill(x, 0, 0, 1).morning(0);
        due(x.now(), 9999);
        due(x.tellsMost(), -1);
    }

    static void promise37_oneIn10000IsAChange() {
        BlackCabinet x = in("noon 99;hand 0;court 99;" + "letter 0 tongue 0 says yes;".repeat(4) + "prior 99;copies:1;");
        fill(x, 0, 0).morning(0);
        due(x.now(), 9998);
        due(x.tellsMost(), 1);
        x.byRule();
        due(x.now(), 9999);
    }

    static void promise37_theFirstOfLikeOnes() {
        due(in("noon 9;court 80;letter 0 tongue 0;letter 0 tongue 0 says no;letter 0 tongue 0 says yes;").tellsMost(), 1);
        due(in(SURE).tellsMost(), 0);
    }

    static void promise37_upOrDown() {
        String room = "noon 9;court 60;court 10;letter 0 tongue 0 says yes;letter 1 tongue 0 says ";
        due(in(room + "yes;").tellsMost(), 1);
        due(in(room + "no;").tellsMost(), 1);
        due(in("noon 9;court 70;letter 0 tongue 0 says yes;letter 0 tongue 0 says no;prior 80;").tellsMost(), 1);
        due(in("noon 9;court 70;letter 0 tongue 0 says yes;letter 0 tongue 0 says no;prior 20;").tellsMost(), 0);
    }

    static void promise37_notReadYet() {
        BlackCabinet x = in(FIRST);
        due(x.tellsMost(), 0);
        fill(x, 0, 10).morning(0);
        due(x.tellsMost(), 1);
        fill(x, 0, 11).morning(0);
        due(x.tellsMost(), -1);
    }

    static void promise37_noSuchThingCanBeThen() {
        BlackCabinet x = in(SURE);
        fill(x, 0, 0).morning(0);
        due(x.tellsMost(), -1);
        BlackCabinet y = in("noon 9;court 100;court 60;letter 0 tongue 0 says no;letter 1 tongue 0 says no;prior 100;");
        due(y.tellsMost(), -1);
        BlackCabinet z = in("noon 99;hand 0;court 100;court 60;letter 0 tongue 0 says no;letter 0 tongue 0 says yes;"
            + "letter 1 tongue 0 says yes;prior 50;");
        due(z.tellsMost(), 0);
    }

    static void promise37_noSuchThingCanBeNow() {
        BlackCabinet x = in(SURE + "letter 0 tongue 0 says yes;");
        fill(x, 0, 0, 1).morning(0);
        due(x.now(), -1);
        due(x.tellsMost(), -1);
    }
}
