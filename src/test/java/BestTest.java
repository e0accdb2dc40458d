import java.util.Random;

/**
 * BEST in rooms of six letters and three hands, held against all 700,000 rows of each.
 * Arguments: how many rooms, the first seed.
 */
public final class BestTest {
    private static int wrong = 0;
    private static int letters;
    private static int hands;
    private static int noon;
    private static int[] opens;
    private static int[] mends;
    private static int[] worth;
    private static int[][] copies;
    private static int[] reads;
    private static final int[] soonest = new int[64];
    private static final int[] row = new int[6];
    private static final int[] copied = new int[6];
    private static int[] best;
    private static int bestWorth;
    private static int bestEnd;
    private static int bestSet;

    public static void main(String[] args) {
        int rooms = args.length > 0 ? Integer.parseInt(args[0]) : 120;
        long first = args.length > 1 ? Long.parseLong(args[1]) : 1;
        for (int i = 0; i < rooms; i++) {
            oneRoom(new Random(first + i));
        }
        System.out.println(wrong == 0 ? rooms + " rooms have the BEST of all rows" : wrong + " answers are not those of all rows");
        if (wrong != 0) {
            System.exit(1);
        }
    }

    private static void due(String text, String call, long got, long want) {
        if (got != want) {
            wrong++;
            System.out.println(call + " answered " + got + ", due is " + want + " in " + text);
        }
    }

    private static void oneRoom(Random random) {
        String text = roomText(random);
        BlackCabinet x = new BlackCabinet();
        load(x, text);
        look(x);
        int awake = (1 << hands) - 1;
        tryAll(awake);
        due(text, "best(0)", x.best(0), bestWorth);
        due(text, "best(1)", x.best(1), best.length);
        due(text, "best(2)", x.best(2), bestSet);
        due(text, "best(3)", x.best(3), bestEnd);
        for (int i = 0; i <= 6; i++) {
            due(text, "bestAt(" + i + ")", x.bestAt(i), i < best.length ? best[i] : -1);
        }
        for (int by = 0; by < 1000; by += 1 + random.nextInt(60)) {
            due(text, "bestBy(" + by + ")", x.bestBy(by), worthBy(by, 63));
        }
        for (int w = 0; w < 200; w += 1 + random.nextInt(25)) {
            due(text, "noonFor(" + w + ")", x.noonFor(w), noonFor(w));
        }
        int most = -1;
        int hindrance = -1;
        for (int k = 0; k < letters; k++) {
            if (worthBy(noon, 63 & ~(1 << k)) > most) {
                most = worthBy(noon, 63 & ~(1 << k));
                hindrance = k;
            }
        }
        due(text, "hindrance()", x.hindrance(), hindrance);
        int all = bestWorth;
        int h = random.nextInt(hands);
        tryAll(awake & ~(1 << h));
        due(text, "without(" + h + ")", x.without(h), all - bestWorth);
    }

    private static String roomText(Random random) {
        String[] opening = {"2", "seal", "sign", "seal + 1", "pages", "0", "seal * 3", "sign - 4", "(seal - 6) * 5"};
        String[] copying = {"pages * 5 - skill", "pages * (10 - skill)", "pages * 3 + tongue * skill", "pages + 20 - skill", "sign * sign", "0"};
        String[] mending = {"seal + 3", "sign", "seal", "1", "pages", "seal * 5", "0"};
        StringBuilder s = new StringBuilder("noon " + (10 + random.nextInt(random.nextBoolean() ? 100 : 200)) + ";");
        for (int h = 0; h < 3; h++) {
            s.append(random.nextInt(3) == 0 ? "hand 0 " + random.nextInt(4) : "hand 0 1 2 3").append(" skill ").append(random.nextInt(10)).append(";");
        }
        s.append("court 50;");
        boolean alike = random.nextBoolean();
        for (int k = 0; k < 6; k++) {
            s.append("letter 0 tongue ").append(random.nextInt(4)).append(" pages ").append(1 + random.nextInt(6));
            s.append(" worth ").append(alike ? random.nextInt(3) : random.nextInt(100));
            s.append(" seal ").append(random.nextInt(10)).append(" sign ").append(random.nextInt(10)).append(";");
        }
        s.append("opens:").append(opening[random.nextInt(opening.length)]).append(";");
        s.append("copies:").append(copying[random.nextInt(copying.length)]).append(";");
        s.append("mends:").append(mending[random.nextInt(mending.length)]).append(";");
        return s.toString();
    }

    private static void load(BlackCabinet x, String text) {
        StringBuilder whole = new StringBuilder(text);
        while (whole.length() % 20 != 0) {
            whole.append(' ');
        }
        for (int i = 0; i < whole.length(); i += 20) {
            int[] w = new int[5];
            for (int j = 0; j < 20; j++) {
                w[j / 4] = w[j / 4] << 8 | whole.charAt(i + j);
            }
            x.feed(w[0], w[1], w[2], w[3], w[4]);
        }
        due(text, "room", x.room(text.length()) > 0 ? 1 : 0, 1);
    }

    private static void look(BlackCabinet x) {
        letters = x.count(3);
        hands = x.count(1);
        noon = x.count(0);
        opens = new int[letters];
        mends = new int[letters];
        worth = new int[letters];
        reads = new int[letters];
        copies = new int[letters][hands];
        for (int k = 0; k < letters; k++) {
            opens[k] = x.takes(k, 0);
            mends[k] = x.takes(k, 1);
            worth[k] = x.letter(k, 3);
            for (int h = 0; h < hands; h++) {
                copies[k][h] = x.copies(k, h);
                reads[k] |= (x.hand(h, 3) >> k & 1) << h;
            }
        }
    }

    private static void tryAll(int awake) {
        java.util.Arrays.fill(soonest, Integer.MAX_VALUE);
        best = new int[0];
        bestWorth = 0;
        bestEnd = 0;
        bestSet = 0;
        tryRows(0, 0, 0, new int[3], awake);
    }

    private static int end(int size) {
        int clock = 0;
        int done = 0;
        for (int n = 0; n < size; n++) {
            int next = -1;
            for (int i = 0; i < size; i++) {
                if ((done >> i & 1) == 0 && (next < 0 || copied[i] < copied[next])) {
                    next = i;
                }
            }
            clock = Math.max(clock, copied[next]) + mends[row[next] % 10];
            done |= 1 << next;
        }
        return clock;
    }

    private static int worthOf(int set) {
        int sum = 0;
        for (int k = 0; k < letters; k++) {
            sum += (set >> k & 1) * worth[k];
        }
        return sum;
    }

    private static void tryRows(int size, int set, int opened, int[] busy, int awake) {
        int end = end(size);
        soonest[set] = Math.min(soonest[set], end);
        if (end <= noon && isBetter(size, set)) {
            best = java.util.Arrays.copyOf(row, size);
            bestWorth = worthOf(set);
            bestEnd = end;
            bestSet = set;
        }
        for (int k = 0; k < letters; k++) {
            for (int h = 0; h < hands; h++) {
                if ((set >> k & 1) == 0 && ((awake & reads[k]) >> h & 1) != 0) {
                    int was = busy[h];
                    busy[h] = Math.max(opened + opens[k], was) + copies[k][h];
                    row[size] = 10 * h + k;
                    copied[size] = busy[h];
                    tryRows(size + 1, set | 1 << k, opened + opens[k], busy, awake);
                    busy[h] = was;
                }
            }
        }
    }

    private static boolean isBetter(int size, int set) {
        int w = worthOf(set);
        if (w != bestWorth || size != best.length) {
            return w > bestWorth || w == bestWorth && size < best.length;
        }
        return java.util.Arrays.compare(row, 0, size, best, 0, size) < 0;
    }

    private static int worthBy(int by, int among) {
        int most = 0;
        for (int set = 0; set < 64; set++) {
            if ((set & ~among) == 0 && soonest[set] <= by) {
                most = Math.max(most, worthOf(set));
            }
        }
        return most;
    }

    private static int noonFor(int w) {
        for (int by = 0; by < 1000; by++) {
            if (worthBy(by, 63) >= w) {
                return by;
            }
        }
        return -1;
    }
}
