/** Found out: promises 32 to 34, with the term QUIET. */
public final class Promises32To34Test extends Cases {
    private static final int MIN = Integer.MIN_VALUE;
    private static final int MAX = Integer.MAX_VALUE;

    public static void main(String[] args) {
        run(Promises32To34Test.class, 32, 34);
    }

    /** Letters that show in 11 of 100 for each of their signs, of worth 1 and more. */
    private static BlackCabinet signs(int... signs) {
        StringBuilder room = new StringBuilder("noon 99;hand 0;court 1;copies:1;shows:sign*11;");
        for (int i = 0; i < signs.length; i++) {
            room.append("letter 0 tongue 0 sign ").append(signs[i]).append(" worth ").append(i + 1).append(";");
        }
        return in(room.toString());
    }

    // ---- 32: quiet

    static void promise32_othersThanLetters() {
        BlackCabinet x = signs(1, 3, 1);
        due(x.quiet(8), -3);
        due(x.quiet(15), -3);
        due(x.quiet(-1), -3);
        due(x.quiet(MIN), -3);
        due(x.quiet(MAX), -3);
        due(new BlackCabinet().quiet(1), -3);
        due(signs(0, 0, 0, 0, 0, 0).quiet(63), 10000);
        due(signs(0, 0, 0, 0, 0, 0).quiet(64), -3);
    }

    static void promise32_none() {
        due(signs(1).quiet(0), 10000);
        due(new BlackCabinet().quiet(0), 10000);
    }

    static void promise32_neverAndAlways() {
        BlackCabinet x = in("noon 9;court 1;letter 0 tongue 0;letter 0 tongue 0 sign 1;shows:sign*100;");
        dueAll(x::quiet, 10000, 10000, 0, 0);
    }

    static void promise32_cutEachTime() {
        BlackCabinet x = in("noon 9;court 1;" + "letter 0 tongue 0;".repeat(4) + "shows:7;");
        due(x.quiet(3), 8649);
        due(x.quiet(7), 8043);
        due(x.quiet(15), 7479);
    }

    static void promise32_byNumbers() {
        due(signs(1, 1, 1, 3).quiet(15), 4722);
        due(signs(3, 1, 1, 1).quiet(15), 4723);
    }

    static void promise32_readOrNot() {
        BlackCabinet x = signs(1, 3, 1);
        x.byRule();
        dueAll(x::quiet, 10000, 8900, 6700, 5963, 8900, 7921, 5963, 5307, -3);
    }

    // ---- 33: safest

    static void promise33_nIs0To6() {
        BlackCabinet x = signs(1, 3, 1);
        due(x.safest(-1), -3);
        due(x.safest(7), -3);
        due(x.safest(MIN), -3);
        due(x.safest(MAX), -3);
        due(new BlackCabinet().safest(7), -3);
    }

    static void promise33_notSoMany() {
        BlackCabinet x = signs(1, 3, 1);
        dueAll(x::safest, 0, 1, 5, 7, -1, -1, -1, -3);
        dueAll(new BlackCabinet()::safest, 0, -1, -1, -1, -1, -1, -1, -3);
    }

    static void promise33_allSix() {
        BlackCabinet x = signs(5, 4, 3, 2, 1, 0);
        dueAll(x::safest, 0, 32, 48, 56, 60, 62, 63, -3);
    }

    static void promise33_ofLikeOnesTheLeastSet() {
        dueAll(signs(2, 2, 2, 2, 2, 2)::safest, 0, 1, 3, 7, 15, 31, 63);
        BlackCabinet x = in("noon 9;court 1;" + "letter 0 tongue 0;".repeat(3) + "shows:100;");
        dueAll(x::safest, 0, 1, 3, 7);
    }

    static void promise33_notRead() {
        BlackCabinet x = signs(0, 3, 1);
        fill(x, 0, 0).morning(0);
        dueAll(x::safest, 0, 4, 6, -1, -1, -1, -1, -3);
        x.byRule();
        dueAll(x::safest, 0, -1);
    }

    // ---- 34: bold

    static void promise34_qIs0To10000() {
        BlackCabinet x = signs(1, 3, 1);
        due(x.bold(-1), -3);
        due(x.bold(10001), -3);
        due(x.bold(MIN), -3);
        due(x.bold(MAX), -3);
        due(new BlackCabinet().bold(10001), -3);
    }

    static void promise34_qOrMore() {
        BlackCabinet x = signs(1, 3, 1);
        due(x.bold(5307), 7);
        due(x.bold(5308), 6);
        due(x.bold(5963), 6);
        due(x.bold(5964), 5);
        due(x.bold(7921), 5);
        due(x.bold(7922), 4);
        due(x.bold(8900), 4);
        due(x.bold(8901), 0);
        due(x.bold(10000), 0);
    }

    static void promise34_noQuietIsWanted() {
        BlackCabinet x = in("noon 9;court 1;" + "letter 0 tongue 0;".repeat(6) + "shows:100;");
        due(x.bold(0), 63);
        due(x.bold(1), 0);
    }

    static void promise34_allQuietIsWanted() {
        due(signs(0, 1, 0).bold(10000), 5);
        due(new BlackCabinet().bold(10000), 0);
        due(new BlackCabinet().bold(0), 0);
    }

    static void promise34_ofLikeOnesTheLeastSet() {
        BlackCabinet x = in("noon 9;court 1;letter 0 tongue 0 worth 0;letter 0 tongue 0 worth 3;letter 0 tongue 0 worth 2;"
            + "letter 0 tongue 0 worth 1;letter 0 tongue 0 worth 0;shows:10;");
        due(x.bold(9000), 2);
        due(x.bold(8100), 6);
        due(x.bold(0), 14);
        BlackCabinet y = in("noon 9;court 1;letter 0 tongue 0 worth 0;letter 0 tongue 0 worth 0;shows:0;");
        due(y.bold(0), 0);
        BlackCabinet z = in("noon 9;court 1;letter 0 tongue 0 worth 1;letter 0 tongue 0 worth 1;letter 0 tongue 0 worth 2 sign 1;"
            + "shows:10+sign*9;");
        due(z.bold(8100), 3);
        due(z.bold(8000), 3);
    }

    static void promise34_notRead() {
        BlackCabinet x = signs(1, 3, 1);
        fill(x, 0, 2).morning(0);
        due(x.bold(0), 3);
        due(x.bold(8900), 1);
        x.byRule();
        due(x.bold(0), 0);
    }
}
