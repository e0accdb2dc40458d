import java.util.Arrays;

/** A back room where letters are opened, copied and mended before noon; README.md tells how to use it. */
public final class BlackCabinet {
    /** There is none. */
    public static final int NONE = -1;

    private static final int NO_SUCH = -2;
    private static final int NO_NUMBER = -3;
    private static final int TOO_MANY = -4;
    private static final int NOT_NOW = -5;
    private static final int MISSING = -6;
    private static final int NO_PLACE = -7;
    private static final int WHY_NOT = -10;
    private static final int FAULTY = -30;

    private static final int MAX_TEXT = 900;
    private static final int MAX_HANDS = 3;
    private static final int MAX_COURTS = 4;
    private static final int MAX_LETTERS = 6;
    private static final int MAX_NAME = 8;
    private static final int MAX_TRAYS = 4;
    private static final int MAX_NUMBERS = 40;
    private static final int MAX_IMAGES = 2;
    private static final int MAX_UNDONE = 10;
    private static final int MAX_TIMES = 30;
    private static final int MAX_MINUTE = 999;
    private static final int MAX_QUIET = 10000;
    private static final int SETS = 1 << MAX_LETTERS;
    private static final int HAND_SETS = 1 << MAX_HANDS;

    /** What is held of a letter, in the order in which letter() tells it. */
    private static final int COURT = 0;
    private static final int TONGUE = 1;
    private static final int PAGES = 2;
    private static final int WORTH = 3;
    private static final int SEAL = 4;
    private static final int SIGN = 5;
    private static final int SAYS = 6;
    private static final int FACTS = 7;
    private static final int YES = 1;
    private static final int NO = 2;

    private static final int DEED_MORNING = 100;
    private static final int DEED_RULE = 200;
    private static final int DEED_HAND = 300;

    private final byte[] tape = new byte[MAX_TEXT];
    private int tapeLength = 0;
    private int faultKind = 0;
    private int faultPlace = NONE;
    private final Room here = new Room();
    private final Room draft = new Room();
    private final Standing stand = new Standing();
    private final Standing trial = new Standing();
    private final Past past = new Past();
    private final Reader reader = new Reader(tape, draft);
    private final Row line = new Row(here);
    private final Doer doer = new Doer(here, line);
    private final Planner planner = new Planner(here);
    private final Cipher cipher = new Cipher(here);
    private final Tray[] trays = new Tray[MAX_TRAYS];
    private final Room[] imageRooms = new Room[MAX_IMAGES];
    private final Standing[] imageStands = new Standing[MAX_IMAGES];
    private final boolean[] imageMade = new boolean[MAX_IMAGES];

    public BlackCabinet() {
        for (int i = 0; i < MAX_TRAYS; i++) {
            trays[i] = new Tray();
        }
        for (int i = 0; i < MAX_IMAGES; i++) {
            imageRooms[i] = new Room();
            imageStands[i] = new Standing();
        }
    }

    // ---- the room

    public int feed(int a, int b, int c, int d, int e) {
        if (tapeLength + 20 > MAX_TEXT) {
            return NOT_NOW;
        }
        putOnTape(a);
        putOnTape(b);
        putOnTape(c);
        putOnTape(d);
        putOnTape(e);
        return tapeLength;
    }

    private void putOnTape(int word) {
        for (int shift = 24; shift >= 0 && tapeLength < MAX_TEXT; shift -= 8) {
            tape[tapeLength] = (byte) (word >>> shift);
            tapeLength++;
        }
    }

    public int room(int n) {
        if (n < 0 || n > tapeLength) {
            return NO_NUMBER;
        }
        tapeLength = 0;
        reader.read(n);
        faultKind = reader.faultKind;
        faultPlace = reader.faultPlace;
        if (faultKind != 0) {
            return FAULTY - faultKind;
        }
        here.become(draft);
        stand.begin(here.allHands());
        past.forget();
        planner.forget();
        return here.lines;
    }

    public int fault(int what) {
        if (what == 0) {
            return faultKind;
        }
        return what == 1 ? faultPlace : NONE;
    }

    public int letter(int k, int what) {
        if (!here.hasLetter(k)) {
            return NO_SUCH;
        }
        if (what >= 0 && what < FACTS) {
            return here.fact(k, what);
        }
        if (what == 7) {
            return stand.read >> k & 1;
        }
        return what == 8 ? stand.found >> k & 1 : NO_SUCH;
    }

    public int hand(int h, int what) {
        if (!here.hasHand(h)) {
            return NO_SUCH;
        }
        switch (what) {
            case 0:
                return here.tongues[h];
            case 1:
                return here.skills[h];
            case 2:
                return stand.awake >> h & 1;
            case 3:
                return here.lettersOf(h);
            default:
                return NO_SUCH;
        }
    }

    public int court(int c) {
        return c >= 0 && c < here.courts && c < MAX_COURTS ? here.truths[c] : NO_SUCH;
    }

    public int takes(int k, int what) {
        if (!here.hasLetter(k)) {
            return NO_SUCH;
        }
        switch (what) {
            case 0:
                return here.opening[k];
            case 1:
                return here.mending[k];
            case 2:
                return here.showing[k];
            default:
                return NO_SUCH;
        }
    }

    public int copies(int k, int h) {
        return here.hasLetter(k) && here.hasHand(h) ? here.copyTime(k, h) : NO_SUCH;
    }

    public int name(int i) {
        if (i < 0) {
            return NO_NUMBER;
        }
        return i < here.nameLength && i < MAX_NAME ? here.nameLetters[i] : NONE;
    }

    // ---- deeds

    public int seed(int n) {
        int was = stand.x;
        past.keep(stand);
        stand.x = n;
        return was;
    }

    public int morning(int tray) {
        int code = trayCode(tray);
        if (code != 0) {
            return code;
        }
        doer.layRow(trays[tray], MAX_NUMBERS, stand);
        if (doer.why != 0) {
            return WHY_NOT - doer.why;
        }
        past.keep(stand);
        return doer.readRow(stand);
    }

    public int byRule() {
        past.keep(stand);
        doer.ruleRow(here.allLetters() & ~stand.read, stand.awake);
        int taken = line.taken;
        doer.readRow(stand);
        return taken;
    }

    public int sleeps(int h) {
        if (!here.hasHand(h)) {
            return NO_SUCH;
        }
        past.keep(stand);
        stand.awake ^= 1 << h;
        return stand.awake >> h & 1;
    }

    public int undo(int n) {
        if (n < 1 || n > MAX_UNDONE || n > past.size) {
            return NO_NUMBER;
        }
        past.bringBack(n, stand);
        return past.size;
    }

    public int judge(int tray, int what) {
        int code = trayAndWhat(tray, what, 4);
        if (code != 0) {
            return code;
        }
        trial.become(stand);
        doer.doAll(trays[tray], trial);
        switch (what) {
            case 0:
                return doer.stopped;
            case 1:
                return doer.why;
            case 2:
                return trial.read;
            default:
                return trial.days;
        }
    }

    public int perform(int tray) {
        int code = trayCode(tray);
        if (code != 0) {
            return code;
        }
        trial.become(stand);
        int done = doer.doAll(trays[tray], trial);
        if (done > 0) {
            past.keep(stand);
            stand.become(trial);
        }
        return done;
    }

    public int mornings(int seed, int times) {
        if (times < 1 || times > MAX_TIMES) {
            return NO_NUMBER;
        }
        if (here.hands < 1) {
            return NOT_NOW;
        }
        past.keep(stand);
        stand.x = seed;
        for (int i = 0; i < times; i++) {
            doer.drawnDeed(stand);
        }
        return stand.read;
    }

    // ---- rows

    public int row(int tray, int what) {
        int code = trayAndWhat(tray, what, 3);
        if (code != 0) {
            return code;
        }
        doer.layRow(trays[tray], MAX_NUMBERS, stand);
        if (what == 0) {
            return doer.stopped;
        }
        return what == 1 ? doer.why : line.end();
    }

    public int when(int tray, int i, int what) {
        int code = trayAndWhat(tray, what, 3);
        if (code != 0) {
            return code;
        }
        if (i < 0 || i >= trays[tray].size) {
            return NO_PLACE;
        }
        doer.layRow(trays[tray], i + 1, stand);
        if (doer.why != 0 || i >= line.size || i >= MAX_LETTERS) {
            return NONE;
        }
        if (what == 0) {
            return line.opened[i];
        }
        return what == 1 ? line.copied[i] : line.mended[i];
    }

    public int best(int what) {
        planner.plan(stand.read, stand.awake);
        switch (what) {
            case 0:
                return planner.planWorth;
            case 1:
                return planner.planSize;
            case 2:
                return planner.planSet;
            case 3:
                return planner.planEnd;
            default:
                return NO_SUCH;
        }
    }

    public int bestAt(int i) {
        if (i < 0) {
            return NO_NUMBER;
        }
        planner.plan(stand.read, stand.awake);
        return i < planner.planSize && i < MAX_LETTERS ? planner.planCodes[i] : NONE;
    }

    public int bestBy(int noon) {
        if (noon < 0 || noon > MAX_MINUTE) {
            return NO_NUMBER;
        }
        planner.useHands(stand.awake);
        return planner.mostWorth(here.allLetters() & ~stand.read, noon);
    }

    public int noonFor(int worth) {
        if (worth < 0) {
            return NO_NUMBER;
        }
        int open = here.allLetters() & ~stand.read;
        int least = MAX_MINUTE + 1;
        planner.useHands(stand.awake);
        for (int set = 0; set < SETS; set++) {
            if ((set & ~open) == 0 && here.worthOf(set) >= worth) {
                least = Math.min(least, planner.soonest(set));
            }
        }
        return least <= MAX_MINUTE ? least : NONE;
    }

    public int without(int h) {
        if (!here.hasHand(h)) {
            return NO_SUCH;
        }
        int open = here.allLetters() & ~stand.read;
        planner.useHands(stand.awake);
        int with = planner.mostWorth(open, here.noon);
        planner.useHands(stand.awake & ~(1 << h));
        return with - planner.mostWorth(open, here.noon);
    }

    public int hindrance() {
        planner.useHands(stand.awake);
        int open = here.allLetters() & ~stand.read;
        int first = NONE;
        int most = -1;
        for (int k = 0; k < here.letters; k++) {
            if ((open >> k & 1) != 0) {
                int left = planner.mostWorth(open & ~(1 << k), here.noon);
                if (left > most) {
                    most = left;
                    first = k;
                }
            }
        }
        return first;
    }

    public int hopeless() {
        planner.useHands(stand.awake);
        int set = 0;
        for (int k = 0; k < here.letters; k++) {
            boolean open = (stand.read >> k & 1) == 0;
            if (open && planner.soonest(1 << k) > here.noon) {
                set |= 1 << k;
            }
        }
        return set;
    }

    // ---- by rule

    public int rule(int what) {
        doer.ruleRow(here.allLetters() & ~stand.read, stand.awake);
        switch (what) {
            case 0:
                return line.taken;
            case 1:
                return here.worthOf(line.taken);
            case 2:
                return line.end();
            default:
                return NO_SUCH;
        }
    }

    public int ruleBy(int k) {
        if (!here.hasLetter(k)) {
            return NO_SUCH;
        }
        doer.ruleRow(here.allLetters() & ~stand.read, stand.awake);
        for (int i = 0; i < line.size && i < MAX_LETTERS; i++) {
            if (line.letters[i] == k) {
                return line.by[i];
            }
        }
        return NONE;
    }

    public int slept(int set) {
        if (!here.hasSet(set)) {
            return NO_NUMBER;
        }
        int sets = 0;
        for (int asleep = 0; asleep <= here.allHands(); asleep++) {
            if (readIfSlept(asleep) == set) {
                sets++;
            }
        }
        return sets;
    }

    public int sleeper(int set) {
        if (!here.hasSet(set)) {
            return NO_NUMBER;
        }
        int all = here.allHands();
        boolean any = false;
        for (int asleep = 0; asleep <= here.allHands(); asleep++) {
            if (readIfSlept(asleep) == set) {
                all &= asleep;
                any = true;
            }
        }
        return any ? all : 0;
    }

    private int readIfSlept(int asleep) {
        doer.ruleRow(here.allLetters(), here.allHands() & ~asleep);
        return line.taken;
    }

    // ---- found out

    public int quiet(int set) {
        return here.hasSet(set) ? here.quietOf(set) : NO_NUMBER;
    }

    public int safest(int n) {
        if (n < 0 || n > MAX_LETTERS) {
            return NO_NUMBER;
        }
        int open = here.allLetters() & ~stand.read;
        int least = NONE;
        int most = -1;
        for (int set = 0; set < SETS; set++) {
            if ((set & ~open) == 0 && Integer.bitCount(set) == n && here.quietOf(set) > most) {
                most = here.quietOf(set);
                least = set;
            }
        }
        return least;
    }

    public int bold(int q) {
        if (q < 0 || q > MAX_QUIET) {
            return NO_NUMBER;
        }
        int open = here.allLetters() & ~stand.read;
        int least = 0;
        int most = -1;
        for (int set = 0; set < SETS; set++) {
            if ((set & ~open) == 0 && here.quietOf(set) >= q && here.worthOf(set) > most) {
                most = here.worthOf(set);
                least = set;
            }
        }
        return least;
    }

    // ---- what to believe

    public long belief(int set, int what) {
        if (what < 0 || what > 1) {
            return NO_SUCH;
        }
        if (!here.hasSet(set)) {
            return NO_NUMBER;
        }
        long war = here.chance(set, true);
        long all = war + here.chance(set, false);
        long shared = commonDivisor(war, all);
        if (shared == 0) {
            return 0;
        }
        return (what == 0 ? war : all) / shared;
    }

    private static long commonDivisor(long a, long b) {
        long high = a;
        long low = b;
        // Euclid needs fewer than 100 steps for any two longs.
        for (int i = 0; i < 200 && low != 0; i++) {
            long rest = high % low;
            high = low;
            low = rest;
        }
        return high;
    }

    public int now() {
        return here.believed(stand.read);
    }

    public int tellsMost() {
        int today = here.believed(stand.read);
        if (today == NONE) {
            return NONE;
        }
        int first = NONE;
        int most = 0;
        for (int k = 0; k < here.letters; k++) {
            int then = here.believed(stand.read | 1 << k);
            boolean open = (stand.read >> k & 1) == 0;
            if (open && then != NONE && Math.abs(then - today) > most) {
                most = Math.abs(then - today);
                first = k;
            }
        }
        return first;
    }

    // ---- ciphers

    public int keys(int tray) {
        int code = cipherCode(tray);
        if (code != 0) {
            return code;
        }
        cipher.findKeys();
        return cipher.total();
    }

    public int keyAt(int tray, int i) {
        int code = cipherCode(tray);
        if (code != 0) {
            return code;
        }
        if (i < 0) {
            return NO_NUMBER;
        }
        cipher.findKeys();
        return cipher.nth(i);
    }

    public int place(int tray, int key) {
        int code = cipherCode(tray);
        if (code != 0) {
            return code;
        }
        return cipher.turn(key) ? cipher.nameIn() : NO_NUMBER;
    }

    public int plain(int tray, int key, int to) {
        if (!hasTray(tray) || !hasTray(to) || tray == to) {
            return NO_SUCH;
        }
        if (trays[tray].size < 0 || trays[to].size < 0) {
            return MISSING;
        }
        int code = cipherCode(tray);
        if (code != 0) {
            return code;
        }
        if (!cipher.turn(key)) {
            return NO_NUMBER;
        }
        int put = Math.min(cipher.length, trays[to].size);
        for (int i = 0; i < put; i++) {
            trays[to].put(i, cipher.plainAt(i));
        }
        return put;
    }

    public int look(int tray) {
        int code = cipherCode(tray);
        if (code != 0) {
            return code;
        }
        cipher.findKeys();
        return cipher.mostUnlike();
    }

    private int cipherCode(int tray) {
        int code = trayCode(tray);
        return code != 0 ? code : cipher.load(trays[tray]);
    }

    // ---- trays, images

    public int numbers(int tray, int sort, int n) {
        if (!hasTray(tray) || sort < 0 || sort > 3) {
            return NO_SUCH;
        }
        if (n < 0 || n > MAX_NUMBERS) {
            return NO_NUMBER;
        }
        trays[tray].begin(sort, n);
        return 0;
    }

    public long write(int tray, int i, long v) {
        int code = trayCode(tray);
        if (code != 0) {
            return code;
        }
        if (i < 0 || i >= trays[tray].size) {
            return NO_PLACE;
        }
        return trays[tray].put(i, v);
    }

    public int lists(int tray) {
        int code = trayCode(tray);
        if (code != 0) {
            return code;
        }
        planner.plan(stand.read, stand.awake);
        int put = Math.min(planner.planSize, trays[tray].size);
        for (int i = 0; i < put && i < MAX_LETTERS; i++) {
            trays[tray].put(i, planner.planCodes[i]);
        }
        return put;
    }

    public int image(int i) {
        if (i < 0 || i >= MAX_IMAGES) {
            return NO_SUCH;
        }
        imageRooms[i].become(here);
        imageStands[i].become(stand);
        imageMade[i] = true;
        return 0;
    }

    public int restore(int i) {
        if (i < 0 || i >= MAX_IMAGES) {
            return NO_SUCH;
        }
        if (!imageMade[i]) {
            return NOT_NOW;
        }
        here.become(imageRooms[i]);
        stand.become(imageStands[i]);
        past.forget();
        planner.forget();
        return 0;
    }

    public int count(int what) {
        switch (what) {
            case 0:
                return here.noon;
            case 1:
                return here.hands;
            case 2:
                return here.courts;
            case 3:
                return here.letters;
            case 4:
                return stand.read;
            case 5:
                return stand.found;
            case 6:
                return stand.days;
            case 7:
                return stand.awake;
            case 8:
                return here.prior;
            case 9:
                return past.size;
            case 10:
                return tapeLength;
            case 11:
                return here.lines;
            case 12:
                return here.nameLength;
            default:
                return NONE;
        }
    }

    private static boolean hasTray(int tray) {
        return tray >= 0 && tray < MAX_TRAYS;
    }

    private int trayCode(int tray) {
        if (!hasTray(tray)) {
            return NO_SUCH;
        }
        return trays[tray].size < 0 ? MISSING : 0;
    }

    private int trayAndWhat(int tray, int what, int whats) {
        if (!hasTray(tray) || what < 0 || what >= whats) {
            return NO_SUCH;
        }
        return trays[tray].size < 0 ? MISSING : 0;
    }

    /** THE ROOM as its text tells it, with the laws worked out: they ask only for what the text holds. */
    private static final class Room {
        int noon = 0;
        int hands = 0;
        int courts = 0;
        int letters = 0;
        int lines = 0;
        int prior = 50;
        int nameLength = 0;
        final int[] tongues = new int[MAX_HANDS];
        final int[] skills = new int[MAX_HANDS];
        final int[] truths = new int[MAX_COURTS];
        final int[] facts = new int[MAX_LETTERS * FACTS];
        final int[] nameLetters = new int[MAX_NAME];
        final int[] opening = new int[MAX_LETTERS];
        final int[] mending = new int[MAX_LETTERS];
        final int[] showing = new int[MAX_LETTERS];
        final int[] copying = new int[MAX_LETTERS * MAX_HANDS];
        /** The hands that read each letter, as bits. */
        final int[] readers = new int[MAX_LETTERS];
        /** The Planner's table, by hands awake and letters; it goes with the room so that images keep it. */
        final int[] soonest = new int[HAND_SETS * SETS];
        int soonestKnown = 0;

        void clear() {
            noon = 0;
            hands = 0;
            courts = 0;
            letters = 0;
            lines = 0;
            prior = 50;
            nameLength = 0;
            soonestKnown = 0;
            Arrays.fill(tongues, 0);
            Arrays.fill(skills, 0);
            Arrays.fill(facts, 0);
        }

        void become(Room other) {
            noon = other.noon;
            hands = other.hands;
            courts = other.courts;
            letters = other.letters;
            lines = other.lines;
            prior = other.prior;
            nameLength = other.nameLength;
            soonestKnown = other.soonestKnown;
            System.arraycopy(other.tongues, 0, tongues, 0, MAX_HANDS);
            System.arraycopy(other.skills, 0, skills, 0, MAX_HANDS);
            System.arraycopy(other.truths, 0, truths, 0, MAX_COURTS);
            System.arraycopy(other.facts, 0, facts, 0, MAX_LETTERS * FACTS);
            System.arraycopy(other.nameLetters, 0, nameLetters, 0, MAX_NAME);
            System.arraycopy(other.opening, 0, opening, 0, MAX_LETTERS);
            System.arraycopy(other.mending, 0, mending, 0, MAX_LETTERS);
            System.arraycopy(other.showing, 0, showing, 0, MAX_LETTERS);
            System.arraycopy(other.copying, 0, copying, 0, MAX_LETTERS * MAX_HANDS);
            System.arraycopy(other.readers, 0, readers, 0, MAX_LETTERS);
            System.arraycopy(other.soonest, 0, soonest, 0, HAND_SETS * SETS);
        }

        boolean hasHand(int h) {
            return h >= 0 && h < hands && h < MAX_HANDS;
        }

        boolean hasLetter(int k) {
            return k >= 0 && k < letters && k < MAX_LETTERS;
        }

        boolean hasSet(int set) {
            return (set & ~allLetters()) == 0;
        }

        int allHands() {
            return (1 << hands) - 1;
        }

        int allLetters() {
            return (1 << letters) - 1;
        }

        int fact(int k, int what) {
            return hasLetter(k) && what >= 0 && what < FACTS ? facts[k * FACTS + what] : 0;
        }

        int copyTime(int k, int h) {
            return hasLetter(k) && hasHand(h) ? copying[k * MAX_HANDS + h] : 0;
        }

        /** Of some hands those that read a letter, as bits. */
        int readersOf(int k, int some) {
            return hasLetter(k) ? readers[k] & some : 0;
        }

        int lettersOf(int h) {
            int set = 0;
            for (int k = 0; k < letters; k++) {
                if (readersOf(k, 1 << h) != 0) {
                    set |= 1 << k;
                }
            }
            return set;
        }

        int worthOf(int set) {
            int sum = 0;
            for (int k = 0; k < letters; k++) {
                if ((set >> k & 1) != 0) {
                    sum += fact(k, WORTH);
                }
            }
            return sum;
        }

        int quietOf(int set) {
            int likely = MAX_QUIET;
            for (int k = 0; k < letters && k < MAX_LETTERS; k++) {
                if ((set >> k & 1) != 0) {
                    likely = likely * (100 - showing[k]) / 100;
                }
            }
            return likely;
        }

        /** How likely what a set says is, in 100 to the power of its sayings and 1, together with war or none. */
        long chance(int set, boolean war) {
            long likely = war ? prior : 100 - prior;
            for (int k = 0; k < letters; k++) {
                int says = (set >> k & 1) != 0 ? fact(k, SAYS) : 0;
                int from = fact(k, COURT);
                if (says != 0 && from >= 0 && from < MAX_COURTS) {
                    boolean right = (says == YES) == war;
                    likely *= right ? truths[from] : 100 - truths[from];
                }
            }
            return likely;
        }

        int believed(int set) {
            long war = chance(set, true);
            long all = war + chance(set, false);
            return all == 0 ? NONE : (int) (war * 10000 / all);
        }
    }

    /** What can be UNDONE. */
    private static final class Standing {
        int read = 0;
        int found = 0;
        int awake = 0;
        int days = 0;
        int x = 0;

        void begin(int allHands) {
            read = 0;
            found = 0;
            awake = allHands;
            days = 0;
            x = 0;
        }

        void become(Standing other) {
            read = other.read;
            found = other.found;
            awake = other.awake;
            days = other.days;
            x = other.x;
        }

        int draw() {
            x = 1103515245 * x + 12345;
            return x >>> 16;
        }
    }

    /** The standings ahead of the latest calls, in a ring so that the eldest gives way. */
    private static final class Past {
        private final Standing[] kept = new Standing[MAX_UNDONE];
        private int first = 0;
        int size = 0;

        Past() {
            for (int i = 0; i < MAX_UNDONE; i++) {
                kept[i] = new Standing();
            }
        }

        void forget() {
            first = 0;
            size = 0;
        }

        void keep(Standing s) {
            kept[(first + size) % MAX_UNDONE].become(s);
            if (size < MAX_UNDONE) {
                size++;
            } else {
                first = (first + 1) % MAX_UNDONE;
            }
        }

        void bringBack(int n, Standing s) {
            if (n >= 1 && n <= size) {
                size -= n;
                s.become(kept[(first + size) % MAX_UNDONE]);
            }
        }
    }

    /** Numbers of one sort; a size below 0 says that the tray is MISSING. */
    private static final class Tray {
        private int sort = 0;
        int size = NONE;
        private final long[] held = new long[MAX_NUMBERS];

        void begin(int newSort, int newSize) {
            sort = newSort;
            size = newSize;
            Arrays.fill(held, 0L);
        }

        long at(int i) {
            return i >= 0 && i < size && i < MAX_NUMBERS ? held[i] : 0L;
        }

        long put(int i, long v) {
            if (i < 0 || i >= size || i >= MAX_NUMBERS) {
                return 0L;
            }
            held[i] = cut(v);
            return held[i];
        }

        private long cut(long v) {
            switch (sort) {
                case 0:
                    return (byte) v;
                case 1:
                    return (short) v;
                case 2:
                    return (int) v;
                default:
                    return v;
            }
        }
    }

    /** Reads the tape into a Room; the first fault stops it, and the Room is then of no use. */
    private static final class Reader {
        /** Kinds of tokens: these, the signs by their own numbers, and the words that the text's language has. */
        private static final int END = 0;
        private static final int NUMBER = 1;
        private static final int STRANGE = 2;
        private static final int OTHER_WORD = 200;
        private static final int NOON = 201;
        private static final int HAND = 202;
        private static final int SKILL = 203;
        private static final int COURT_WORD = 204;
        private static final int LETTER = 205;
        private static final int TONGUE_WORD = 206;
        private static final int PAGES_WORD = 207;
        private static final int WORTH_WORD = 208;
        private static final int SEAL_WORD = 209;
        private static final int SIGN_WORD = 210;
        private static final int SAYS_WORD = 211;
        private static final int YES_WORD = 212;
        private static final int NO_WORD = 213;
        private static final int OPENS = 214;
        private static final int COPIES = 215;
        private static final int MENDS = 216;
        private static final int SHOWS = 217;
        private static final int PRIOR = 218;
        private static final int NAME = 219;
        private static final int MAX_DEPTH = 6;

        private final byte[] text;
        private final Room told;
        private final Laws laws = new Laws();
        private final int[] kinds = new int[MAX_TEXT + 1];
        private final int[] starts = new int[MAX_TEXT + 1];
        /** Of a number what it is, of a word how long it is. */
        private final int[] values = new int[MAX_TEXT + 1];
        private int at = 0;
        int faultKind = 0;
        int faultPlace = NONE;

        Reader(byte[] text, Room told) {
            this.text = text;
            this.told = told;
        }

        void read(int length) {
            told.clear();
            laws.clear();
            faultKind = 0;
            faultPlace = NONE;
            scan(Math.min(length, text.length));
            at = 0;
            boolean fine = readNoon() && endLine();
            for (int i = 0; i < MAX_TEXT && fine && kinds[at] != END; i++) {
                fine = readLine() && endLine();
            }
            if (fine) {
                laws.workOut(told);
            }
        }

        private void scan(int length) {
            int tokens = 0;
            int from = 0;
            for (int i = 0; i < MAX_TEXT && from < length; i++) {
                int to = from + 1;
                if (text[from] != 10 && text[from] != 32) {
                    to = tokenEnd(from, length);
                    starts[tokens] = from;
                    setToken(tokens, from, to);
                    tokens++;
                }
                from = to;
            }
            kinds[tokens] = END;
            starts[tokens] = length;
        }

        private int tokenEnd(int from, int length) {
            int to = from + 1;
            if (isSmall(text[from])) {
                while (to < length && isSmall(text[to])) {
                    to++;
                }
            } else if (isDigit(text[from])) {
                while (to < length && isDigit(text[to])) {
                    to++;
                }
            }
            return to;
        }

        private void setToken(int token, int from, int to) {
            int first = text[from];
            values[token] = to - from;
            if (isSmall(first)) {
                int word = lineWord(from, to);
                kinds[token] = word != OTHER_WORD ? word : partWord(from, to);
            } else if (isDigit(first)) {
                kinds[token] = to - from > 3 ? STRANGE : NUMBER;
                values[token] = numberAt(from, to);
            } else {
                kinds[token] = isSign(first) ? first : STRANGE;
            }
        }

        private int numberAt(int from, int to) {
            int n = 0;
            for (int i = from; i < to && i < from + 3; i++) {
                n = n * 10 + (text[i] - '0');
            }
            return n;
        }

        private static boolean isSmall(int b) {
            return b >= 'a' && b <= 'z';
        }

        private static boolean isDigit(int b) {
            return b >= '0' && b <= '9';
        }

        private static boolean isSign(int b) {
            return b == ';' || b == ':' || b == '+' || b == '-' || b == '*' || b == '(' || b == ')';
        }

        private int lineWord(int from, int to) {
            return same(from, to, "noon") ? NOON
                : same(from, to, "hand") ? HAND
                : same(from, to, "court") ? COURT_WORD
                : same(from, to, "letter") ? LETTER
                : same(from, to, "opens") ? OPENS
                : same(from, to, "copies") ? COPIES
                : same(from, to, "mends") ? MENDS
                : same(from, to, "shows") ? SHOWS
                : same(from, to, "prior") ? PRIOR
                : same(from, to, "name") ? NAME
                : OTHER_WORD;
        }

        private int partWord(int from, int to) {
            return same(from, to, "skill") ? SKILL
                : same(from, to, "tongue") ? TONGUE_WORD
                : same(from, to, "pages") ? PAGES_WORD
                : same(from, to, "worth") ? WORTH_WORD
                : same(from, to, "seal") ? SEAL_WORD
                : same(from, to, "sign") ? SIGN_WORD
                : same(from, to, "says") ? SAYS_WORD
                : same(from, to, "yes") ? YES_WORD
                : same(from, to, "no") ? NO_WORD
                : OTHER_WORD;
        }

        private boolean same(int from, int to, String word) {
            if (to - from != word.length()) {
                return false;
            }
            for (int i = 0; i < word.length(); i++) {
                if (text[from + i] != word.charAt(i)) {
                    return false;
                }
            }
            return true;
        }

        private boolean readNoon() {
            if (!takeToken(NOON)) {
                return false;
            }
            told.noon = takeNumber(1, 300);
            return faultKind == 0;
        }

        private boolean endLine() {
            told.lines++;
            return takeToken(';');
        }

        private boolean readLine() {
            switch (kinds[at]) {
                case HAND:
                    return readHand();
                case COURT_WORD:
                    return readCourt();
                case LETTER:
                    return readLetter();
                case OPENS:
                    return readLaw(Laws.OPENING);
                case COPIES:
                    return readLaw(Laws.COPYING);
                case MENDS:
                    return readLaw(Laws.MENDING);
                case SHOWS:
                    return readLaw(Laws.SHOWING);
                case PRIOR:
                    return readPrior();
                case NAME:
                    return readName();
                default:
                    return fail(2);
            }
        }

        private boolean readHand() {
            int h = told.hands;
            if (h >= MAX_HANDS) {
                return fail(4);
            }
            at++;
            told.tongues[h] = 1 << takeNumber(0, 3);
            for (int i = 0; i < MAX_TEXT && faultKind == 0 && kinds[at] == NUMBER; i++) {
                told.tongues[h] |= 1 << takeNumber(0, 3);
            }
            if (faultKind == 0 && kinds[at] == SKILL) {
                at++;
                told.skills[h] = takeNumber(0, 9);
            }
            told.hands++;
            return faultKind == 0;
        }

        private boolean readCourt() {
            int c = told.courts;
            if (c >= MAX_COURTS) {
                return fail(4);
            }
            at++;
            told.truths[c] = takeNumber(0, 100);
            told.courts++;
            return faultKind == 0;
        }

        private boolean readLetter() {
            int k = told.letters;
            if (k >= MAX_LETTERS) {
                return fail(4);
            }
            at++;
            int facts = k * FACTS;
            told.facts[facts + COURT] = takeNumber(0, told.courts - 1);
            if (faultKind != 0 || !takeToken(TONGUE_WORD)) {
                return false;
            }
            told.facts[facts + TONGUE] = takeNumber(0, 3);
            told.facts[facts + PAGES] = 1;
            told.facts[facts + WORTH] = 1;
            for (int i = 0; i < MAX_TEXT && faultKind == 0 && kinds[at] >= OTHER_WORD; i++) {
                readFlag(facts);
            }
            told.letters++;
            return faultKind == 0;
        }

        private void readFlag(int facts) {
            int flag = flagFact();
            if (flag == NONE) {
                fail(2);
                return;
            }
            at++;
            int n = 0;
            if (flag == SAYS) {
                n = takeSaying();
            } else {
                int most = flag == PAGES || flag == WORTH ? 99 : 9;
                n = takeNumber(flag == PAGES ? 1 : 0, most);
            }
            if (facts >= 0 && facts + FACTS <= told.facts.length) {
                told.facts[facts + flag] = n;
            }
        }

        private int flagFact() {
            switch (kinds[at]) {
                case WORTH_WORD:
                    return WORTH;
                case SAYS_WORD:
                    return SAYS;
                case PAGES_WORD:
                    return PAGES;
                case SEAL_WORD:
                    return SEAL;
                case SIGN_WORD:
                    return SIGN;
                default:
                    return NONE;
            }
        }

        private int takeSaying() {
            int says = kinds[at] == YES_WORD ? YES : kinds[at] == NO_WORD ? NO : 0;
            if (says == 0) {
                fail(2);
            } else {
                at++;
            }
            return says;
        }

        private boolean readPrior() {
            at++;
            told.prior = takeNumber(0, 100);
            return faultKind == 0;
        }

        private boolean readName() {
            at++;
            int size = values[at];
            if (kinds[at] < OTHER_WORD || size > MAX_NAME) {
                return fail(2);
            }
            told.nameLength = size;
            for (int i = 0; i < size; i++) {
                told.nameLetters[i] = text[starts[at] + i] - 'a';
            }
            at++;
            return true;
        }

        private boolean readLaw(int law) {
            at++;
            if (!takeToken(':')) {
                return false;
            }
            laws.begin(law);
            boolean fine = readSum(law, 0);
            laws.finish(law);
            return fine;
        }

        private boolean readSum(int law, int depth) {
            boolean fine = readTerm(law, depth);
            for (int i = 0; i < MAX_TEXT && fine && (kinds[at] == '+' || kinds[at] == '-'); i++) {
                int op = kinds[at] == '+' ? Laws.ADD : Laws.LESS;
                at++;
                fine = readTerm(law, depth);
                laws.add(op);
            }
            return fine;
        }

        private boolean readTerm(int law, int depth) {
            boolean fine = readAtom(law, depth);
            for (int i = 0; i < MAX_TEXT && fine && kinds[at] == '*'; i++) {
                at++;
                fine = readAtom(law, depth);
                laws.add(Laws.TIMES);
            }
            return fine;
        }

        private boolean readAtom(int law, int depth) {
            if (kinds[at] == '(') {
                if (depth >= MAX_DEPTH) {
                    return fail(4);
                }
                at++;
                if (!readSum(law, depth + 1)) {
                    return false;
                }
                if (kinds[at] != ')') {
                    return fail(2);
                }
                at++;
                return true;
            }
            int op = atomOp(law);
            if (op == NONE) {
                return fail(2);
            }
            laws.add(op);
            at++;
            return true;
        }

        private int atomOp(int law) {
            switch (kinds[at]) {
                case NUMBER:
                    return values[at];
                case PAGES_WORD:
                    return Laws.FACT + PAGES;
                case SEAL_WORD:
                    return Laws.FACT + SEAL;
                case SIGN_WORD:
                    return Laws.FACT + SIGN;
                case TONGUE_WORD:
                    return Laws.FACT + TONGUE;
                case SKILL:
                    return law == Laws.COPYING ? Laws.SKILL : NONE;
                default:
                    return NONE;
            }
        }

        private boolean takeToken(int kind) {
            if (kinds[at] != kind) {
                return fail(2);
            }
            at++;
            return true;
        }

        /** With a fault 0, which its callers may use like any other number till they look at the fault. */
        private int takeNumber(int least, int most) {
            int n = values[at];
            if (kinds[at] != NUMBER) {
                fail(2);
                return 0;
            }
            if (n < least || n > most) {
                fail(3);
                return 0;
            }
            at++;
            return n;
        }

        /** Of one token the least kind counts: a strange one is that first of all. */
        private boolean fail(int why) {
            faultKind = kinds[at] == STRANGE ? 1 : why;
            faultPlace = starts[at];
            return false;
        }
    }

    /** The laws with their signs behind what they join, so that a stack works them out. */
    private static final class Laws {
        static final int OPENING = 0;
        static final int COPYING = 1;
        static final int MENDING = 2;
        static final int SHOWING = 3;
        static final int FACT = 1000;
        static final int SKILL = 1100;
        static final int ADD = 1200;
        static final int LESS = 1201;
        static final int TIMES = 1202;

        private static final int LAWS = 4;
        private static final int BOUND = 1000000;
        /** Seven sums within one another hold at most two numbers back each. */
        private static final int MAX_STACK = 24;

        private final int[] code = new int[MAX_TEXT];
        private int length = 0;
        private final int[] from = new int[LAWS];
        private final int[] to = new int[LAWS];
        private final long[] stack = new long[MAX_STACK];

        void clear() {
            length = 0;
            Arrays.fill(from, 0);
            Arrays.fill(to, 0);
        }

        void begin(int law) {
            if (law >= 0 && law < LAWS) {
                from[law] = length;
            }
        }

        void finish(int law) {
            if (law >= 0 && law < LAWS) {
                to[law] = length;
            }
        }

        void add(int op) {
            if (length < MAX_TEXT) {
                code[length] = op;
                length++;
            }
        }

        void workOut(Room r) {
            for (int k = 0; k < r.letters && k < MAX_LETTERS; k++) {
                r.opening[k] = told(OPENING) ? within(result(OPENING, r, k, 0), 0, MAX_MINUTE) : 2;
                r.mending[k] = told(MENDING) ? within(result(MENDING, r, k, 0), 0, MAX_MINUTE) : r.fact(k, SEAL) + 3;
                r.showing[k] = told(SHOWING) ? within(result(SHOWING, r, k, 0), 0, 100) : 10;
                r.readers[k] = 0;
                for (int h = 0; h < r.hands && h < MAX_HANDS; h++) {
                    int skill = r.skills[h];
                    r.copying[k * MAX_HANDS + h] = told(COPYING)
                        ? within(result(COPYING, r, k, skill), 0, MAX_MINUTE)
                        : within(r.fact(k, PAGES) * 5 - skill, 1, MAX_MINUTE);
                    r.readers[k] |= (r.tongues[h] >> r.fact(k, TONGUE) & 1) << h;
                }
            }
        }

        private boolean told(int law) {
            return law >= 0 && law < LAWS && to[law] > from[law];
        }

        private static int within(long n, int least, int most) {
            return (int) Math.max(least, Math.min(most, n));
        }

        private long result(int law, Room r, int k, int skill) {
            if (!told(law)) {
                return 0;
            }
            int top = 0;
            for (int i = from[law]; i < to[law] && i < MAX_TEXT; i++) {
                int op = code[i];
                if (op >= ADD && top >= 2) {
                    stack[top - 2] = joined(op, stack[top - 2], stack[top - 1]);
                    top--;
                } else if (op < ADD && top < MAX_STACK) {
                    stack[top] = op == SKILL ? skill : op >= FACT ? r.fact(k, op - FACT) : op;
                    top++;
                }
            }
            return top > 0 ? stack[0] : 0;
        }

        private static long joined(int op, long a, long b) {
            long n = op == ADD ? a + b : op == LESS ? a - b : a * b;
            return within(n, -BOUND, BOUND);
        }
    }

    /** A ROW as it grows and shrinks at its end, with the MINUTES of each LETTER in it. */
    private static final class Row {
        private final Room room;
        int size = 0;
        int taken = 0;
        final int[] letters = new int[MAX_LETTERS];
        final int[] by = new int[MAX_LETTERS];
        final int[] opened = new int[MAX_LETTERS];
        final int[] copied = new int[MAX_LETTERS];
        final int[] mended = new int[MAX_LETTERS];
        /** When its hand was done ahead of each, to go back to. */
        private final int[] freeBefore = new int[MAX_LETTERS];
        /** Places in the row as they come to the table to mend. */
        private final int[] order = new int[MAX_LETTERS];
        private final int[] free = new int[MAX_HANDS];

        Row(Room room) {
            this.room = room;
        }

        void clear() {
            size = 0;
            taken = 0;
            Arrays.fill(free, 0);
        }

        int lastOpened() {
            return size > 0 && size <= MAX_LETTERS ? opened[size - 1] : 0;
        }

        int copiedIf(int k, int h) {
            if (!room.hasLetter(k) || !room.hasHand(h)) {
                return 0;
            }
            return Math.max(lastOpened() + room.opening[k], free[h]) + room.copying[k * MAX_HANDS + h];
        }

        void add(int k, int h) {
            if (size >= MAX_LETTERS || !room.hasLetter(k) || !room.hasHand(h)) {
                return;
            }
            int open = lastOpened() + room.opening[k];
            int done = Math.max(open, free[h]) + room.copying[k * MAX_HANDS + h];
            letters[size] = k;
            by[size] = h;
            opened[size] = open;
            copied[size] = done;
            freeBefore[size] = free[h];
            free[h] = done;
            taken |= 1 << k;
            int at = size;
            while (at > 0 && copied[order[at - 1]] > done) {
                order[at] = order[at - 1];
                at--;
            }
            order[at] = size;
            size++;
        }

        /** Whether the last two the other way round are copied as soon: one sooner, or their hands by numbers. */
        boolean isBetterSwapped() {
            if (size < 2 || size > MAX_LETTERS) {
                return false;
            }
            int last = size - 1;
            int ahead = size - 2;
            int start = ahead > 0 ? opened[ahead - 1] : 0;
            boolean aheadSame = freeBefore[ahead] >= opened[last] || opened[ahead] == opened[last];
            boolean lastSame = freeBefore[last] >= opened[last] || opened[ahead] == start;
            return by[ahead] != by[last] && aheadSame && (!lastSame || by[last] < by[ahead]);
        }

        void drop() {
            if (size < 1 || size > MAX_LETTERS) {
                return;
            }
            size--;
            free[by[size]] = freeBefore[size];
            taken &= ~(1 << letters[size]);
            int to = 0;
            for (int i = 0; i <= size; i++) {
                if (order[i] != size) {
                    order[to] = order[i];
                    to++;
                }
            }
        }

        int end() {
            int minute = 0;
            for (int i = 0; i < size && i < MAX_LETTERS; i++) {
                int place = order[i];
                minute = Math.max(minute, copied[place]) + room.mending[letters[place]];
                mended[place] = minute;
            }
            return minute;
        }

        /** The end, if more work came to the table to mend, all of it at one minute. */
        int endWith(int from, int work) {
            int minute = 0;
            boolean done = false;
            for (int i = 0; i < size && i < MAX_LETTERS; i++) {
                int place = order[i];
                if (!done && copied[place] > from) {
                    minute = Math.max(minute, from) + work;
                    done = true;
                }
                minute = Math.max(minute, copied[place]) + room.mending[letters[place]];
            }
            return done ? minute : Math.max(minute, from) + work;
        }
    }

    /** DEEDS, on a Standing that may be the real one or one to judge by. */
    private static final class Doer {
        private final Room room;
        private final Row row;
        /** Of the latest layRow or doAll: the first place that can't be, and why. */
        int stopped = NONE;
        int why = 0;

        Doer(Room room, Row row) {
            this.room = room;
            this.row = row;
        }

        void layRow(Tray tray, int most, Standing s) {
            row.clear();
            stopped = NONE;
            why = 0;
            for (int i = 0; i < tray.size && i < most && why == 0; i++) {
                why = take(tray.at(i), s);
                stopped = why == 0 ? NONE : i;
            }
        }

        /** How many were done. */
        int doAll(Tray tray, Standing s) {
            row.clear();
            stopped = NONE;
            why = 0;
            for (int i = 0; i < tray.size; i++) {
                why = deed(tray.at(i), s);
                if (why != 0) {
                    stopped = i;
                    return i;
                }
            }
            return Math.max(tray.size, 0);
        }

        void drawnDeed(Standing s) {
            if (s.draw() % 3 == 0) {
                deed(DEED_RULE, s);
            } else if (room.hands > 0) {
                deed(DEED_HAND + s.draw() % room.hands, s);
            }
        }

        private int deed(long v, Standing s) {
            if (v == DEED_MORNING) {
                readRow(s);
                return 0;
            }
            if (v == DEED_RULE) {
                ruleRow(room.allLetters() & ~s.read, s.awake);
                readRow(s);
                return 0;
            }
            if (v >= DEED_HAND && v < DEED_HAND + room.hands) {
                s.awake ^= 1 << (int) (v - DEED_HAND);
                return 0;
            }
            return take(v, s);
        }

        /** Why a letter can't come into the row, or 0: then it has. */
        private int take(long v, Standing s) {
            if (v < 0 || v >= 10 * MAX_HANDS) {
                return 1;
            }
            int k = (int) v % 10;
            int h = (int) v / 10;
            if (!room.hasLetter(k) || !room.hasHand(h)) {
                return 1;
            }
            boolean gone = ((s.read | row.taken) >> k & 1) != 0;
            if (gone || room.readersOf(k, s.awake & 1 << h) == 0) {
                return 2;
            }
            row.add(k, h);
            if (row.end() > room.noon) {
                row.drop();
                return 3;
            }
            return 0;
        }

        void ruleRow(int open, int awake) {
            row.clear();
            for (int k = 0; k < room.letters; k++) {
                int h = (open >> k & 1) != 0 ? soonestHand(k, awake) : NONE;
                if (h != NONE) {
                    row.add(k, h);
                    if (row.end() > room.noon) {
                        row.drop();
                    }
                }
            }
        }

        private int soonestHand(int k, int awake) {
            int readers = room.readersOf(k, awake);
            int first = NONE;
            int soonest = 0;
            for (int h = 0; h < room.hands; h++) {
                int done = row.copiedIf(k, h);
                if ((readers >> h & 1) != 0 && (first == NONE || done < soonest)) {
                    soonest = done;
                    first = h;
                }
            }
            return first;
        }

        /** A MORNING of the row, which is none then: how many were FOUND OUT. */
        int readRow(Standing s) {
            int shown = 0;
            for (int i = 0; i < row.size && i < MAX_LETTERS; i++) {
                int k = row.letters[i];
                s.read |= 1 << k;
                if (s.draw() % 100 < room.showing[k]) {
                    s.found |= 1 << k;
                    shown++;
                }
            }
            s.days++;
            row.clear();
            return shown;
        }
    }

    /** BEST: for each set of letters the soonest end of a row of them tells what can be read by any noon. */
    private static final class Planner {
        private static final int NEVER = MAX_MINUTE + 1;
        /** Later than any row can end. */
        private static final int FAR = 1000000;

        private final Room room;
        private final Row row;
        /** For the hands awake in the search at hand: who reads each letter, and how soon it could be copied. */
        private final int[] readers = new int[MAX_LETTERS];
        private final int[] quickest = new int[MAX_LETTERS];
        private int table = 0;
        private int found = NEVER;
        private int floor = 0;
        private int open = 0;
        private int wantedWorth = 0;
        private int wantedSize = 0;

        private boolean planned = false;
        private int plannedRead = 0;
        private int plannedAwake = 0;
        int planWorth = 0;
        int planSize = 0;
        int planSet = 0;
        int planEnd = 0;
        final int[] planCodes = new int[MAX_LETTERS];

        Planner(Room room) {
            this.room = room;
            this.row = new Row(room);
        }

        void forget() {
            planned = false;
        }

        /** Worth of BEST of a set of letters by the hands that useHands() told. */
        int mostWorth(int letters, int noon) {
            int most = 0;
            for (int set = 0; set < SETS; set++) {
                if ((set & ~letters) == 0 && soonest(set) <= noon) {
                    most = Math.max(most, room.worthOf(set));
                }
            }
            return most;
        }

        /** The soonest end of a row of a set of letters by the hands that useHands() told. */
        int soonest(int set) {
            return set >= 0 && set < SETS ? room.soonest[table + set] : NEVER;
        }

        void useHands(int awake) {
            int hands = awake & HAND_SETS - 1;
            table = hands * SETS;
            for (int k = 0; k < room.letters && k < MAX_LETTERS; k++) {
                readers[k] = room.readersOf(k, hands);
                quickest[k] = NEVER;
                for (int h = 0; h < room.hands; h++) {
                    if ((readers[k] >> h & 1) != 0) {
                        quickest[k] = Math.min(quickest[k], room.copyTime(k, h));
                    }
                }
            }
            if ((room.soonestKnown >> hands & 1) == 0) {
                fillSoonest();
                room.soonestKnown |= 1 << hands;
            }
        }

        private void fillSoonest() {
            room.soonest[table] = 0;
            for (int set = 1; set < SETS; set++) {
                floor = (set & ~room.allLetters()) == 0 ? floorOf(set) : NEVER;
                found = NEVER;
                if (floor < NEVER) {
                    row.clear();
                    search(set, 0);
                }
                room.soonest[table + set] = found;
            }
        }

        /** A letter less never ends a row later, so no set is sooner than its parts. */
        private int floorOf(int set) {
            int latest = 0;
            for (int k = 0; k < room.letters; k++) {
                if ((set >> k & 1) != 0) {
                    latest = Math.max(latest, soonest(set & ~(1 << k)));
                }
            }
            return latest;
        }

        private void search(int rest, int depth) {
            if (rest == 0 || depth >= MAX_LETTERS) {
                found = Math.min(found, row.end());
                return;
            }
            for (int k = 0; k < room.letters && k < MAX_LETTERS; k++) {
                int hands = (rest >> k & 1) != 0 ? readers[k] : 0;
                int left = rest & ~(1 << k);
                for (int h = 0; h < room.hands && found > floor; h++) {
                    if ((hands >> h & 1) != 0) {
                        row.add(k, h);
                        if (!row.isBetterSwapped() && leastEnd(left) < found) {
                            search(left, depth + 1);
                        }
                        row.drop();
                    }
                }
            }
        }

        /** The row can't end sooner than this, if the letters left come into it too. */
        private int leastEnd(int left) {
            if (left == 0) {
                return row.end();
            }
            int opened = row.lastOpened();
            int alone = opened + soonest(left);
            int lastOpened = opened;
            int copied = FAR;
            int behind = FAR;
            int work = 0;
            for (int k = 0; k < room.letters && k < MAX_LETTERS; k++) {
                if ((left >> k & 1) != 0) {
                    lastOpened += room.opening[k];
                    work += room.mending[k];
                    copied = Math.min(copied, opened + room.opening[k] + quickest[k]);
                    behind = Math.min(behind, quickest[k] + room.mending[k]);
                }
            }
            return Math.max(alone, Math.max(lastOpened + behind, row.endWith(copied, work)));
        }

        /** BEST by NOON; kept, as many calls ask for the same. */
        void plan(int read, int awake) {
            if (planned && plannedRead == read && plannedAwake == awake) {
                return;
            }
            planned = true;
            plannedRead = read;
            plannedAwake = awake;
            open = room.allLetters() & ~read;
            useHands(awake);
            wantedWorth = mostWorth(open, room.noon);
            wantedSize = MAX_LETTERS;
            for (int set = 0; set < SETS; set++) {
                if (hasWantedWorth(set)) {
                    wantedSize = Math.min(wantedSize, Integer.bitCount(set));
                }
            }
            row.clear();
            spell(0);
            keepPlan();
        }

        private boolean hasWantedWorth(int set) {
            return (set & ~open) == 0 && soonest(set) <= room.noon && room.worthOf(set) == wantedWorth;
        }

        private void keepPlan() {
            planWorth = room.worthOf(row.taken);
            planSize = row.size;
            planSet = row.taken;
            planEnd = row.end();
            for (int i = 0; i < row.size && i < MAX_LETTERS; i++) {
                planCodes[i] = 10 * row.by[i] + row.letters[i];
            }
        }

        /** The first row, by its numbers, that has what is wanted stays in the row. */
        private boolean spell(int depth) {
            if (row.size >= wantedSize || depth >= MAX_LETTERS) {
                return row.size == wantedSize;
            }
            for (int h = 0; h < room.hands; h++) {
                for (int k = 0; k < room.letters && k < MAX_LETTERS; k++) {
                    boolean free = ((open & ~row.taken) >> k & 1) != 0;
                    if (free && (readers[k] >> h & 1) != 0) {
                        row.add(k, h);
                        if (canBeWanted() && spell(depth + 1)) {
                            return true;
                        }
                        row.drop();
                    }
                }
            }
            return false;
        }

        private boolean canBeWanted() {
            for (int set = row.taken; set < SETS; set++) {
                boolean whole = (row.taken & ~set) == 0 && Integer.bitCount(set) == wantedSize;
                if (whole && hasWantedWorth(set) && leastEnd(set & ~row.taken) <= room.noon) {
                    return true;
                }
            }
            return false;
        }
    }

    /** A CIPHER and its KEYS; a KEY's index counts those of one, two, three shifts without gaps. */
    private static final class Cipher {
        private static final int LETTERS = 26;
        private static final int PAIRS = LETTERS * LETTERS;
        private static final int TRIPLES = PAIRS * LETTERS;
        private static final int FIRST_PAIR = LETTERS;
        private static final int FIRST_TRIPLE = LETTERS + PAIRS;
        private static final int ALL = LETTERS + PAIRS + TRIPLES;
        private static final int PAIR_NUMBER = 100;
        private static final int TRIPLE_NUMBER = 1000;
        private static final int MAX_SHIFTS = 3;
        private static final int FREE = -1;

        private final Room room;
        private final int[] text = new int[MAX_NUMBERS];
        int length = 0;
        private final int[] fits = new int[(ALL + 31) / 32];
        private final int[] shifts = new int[MAX_SHIFTS];
        private int round = 1;
        /** Shifts of keys that fit, as bits: the one of one, the two of two, the three of three. */
        private final int[] seen = new int[6];

        Cipher(Room room) {
            this.room = room;
        }

        int load(Tray tray) {
            if (tray.size < 1 || tray.size > MAX_NUMBERS) {
                return TOO_MANY;
            }
            for (int i = 0; i < tray.size && i < MAX_NUMBERS; i++) {
                if (tray.at(i) < 0 || tray.at(i) >= LETTERS) {
                    return NO_NUMBER;
                }
                text[i] = (int) tray.at(i);
            }
            length = tray.size;
            return 0;
        }

        /** A name at a place wants some shifts: all keys that have them fit, so no key need be tried. */
        void findKeys() {
            Arrays.fill(fits, 0);
            if (room.nameLength < 1) {
                return;
            }
            for (int turns = 1; turns <= MAX_SHIFTS; turns++) {
                round = turns;
                for (int at = 0; at + room.nameLength <= length; at++) {
                    if (shiftsFor(at)) {
                        markKeys();
                    }
                }
            }
        }

        private boolean shiftsFor(int at) {
            for (int i = 0; i < MAX_SHIFTS; i++) {
                shifts[i] = i < round ? FREE : 0;
            }
            for (int i = 0; i < room.nameLength && i < MAX_NAME; i++) {
                int shift = Math.floorMod(text[at + i] - room.nameLetters[i], LETTERS);
                int turn = turnAt(at + i);
                if (shifts[turn] != FREE && shifts[turn] != shift) {
                    return false;
                }
                shifts[turn] = shift;
            }
            return true;
        }

        private int turnAt(int i) {
            return round >= 1 && round <= MAX_SHIFTS ? i % round : 0;
        }

        private void markKeys() {
            for (int s = least(0); s <= most(0); s++) {
                for (int t = least(1); t <= most(1); t++) {
                    for (int u = least(2); u <= most(2); u++) {
                        int index = round == 1 ? s : round == 2
                            ? FIRST_PAIR + LETTERS * s + t
                            : FIRST_TRIPLE + PAIRS * s + LETTERS * t + u;
                        fits[index >> 5] |= 1 << (index & 31);
                    }
                }
            }
        }

        private int least(int turn) {
            return shifts[turn] == FREE ? 0 : shifts[turn];
        }

        private int most(int turn) {
            return shifts[turn] == FREE ? LETTERS - 1 : shifts[turn];
        }

        int total() {
            int sum = 0;
            for (int i = 0; i < fits.length; i++) {
                sum += Integer.bitCount(fits[i]);
            }
            return sum;
        }

        int nth(int n) {
            int left = n;
            for (int i = 0; i < fits.length; i++) {
                int some = Integer.bitCount(fits[i]);
                if (left < some) {
                    return numberOf(32 * i + nthBit(fits[i], left));
                }
                left -= some;
            }
            return NONE;
        }

        private static int nthBit(int bits, int n) {
            int left = n;
            for (int i = 0; i < 32; i++) {
                if ((bits >> i & 1) != 0) {
                    if (left == 0) {
                        return i;
                    }
                    left--;
                }
            }
            return 0;
        }

        private static int numberOf(int index) {
            if (index < FIRST_PAIR) {
                return index;
            }
            return index < FIRST_TRIPLE ? PAIR_NUMBER + index - FIRST_PAIR : TRIPLE_NUMBER + index - FIRST_TRIPLE;
        }

        /** The shifts are those of a KEY, if there is such a one. */
        boolean turn(int key) {
            if (key >= 0 && key < LETTERS) {
                setShifts(key);
                return true;
            }
            if (key >= PAIR_NUMBER && key < PAIR_NUMBER + PAIRS) {
                setShifts(FIRST_PAIR + key - PAIR_NUMBER);
                return true;
            }
            if (key >= TRIPLE_NUMBER && key < TRIPLE_NUMBER + TRIPLES) {
                setShifts(FIRST_TRIPLE + key - TRIPLE_NUMBER);
                return true;
            }
            return false;
        }

        private void setShifts(int index) {
            if (index < FIRST_PAIR) {
                round = 1;
                shifts[0] = index;
            } else if (index < FIRST_TRIPLE) {
                round = 2;
                shifts[0] = (index - FIRST_PAIR) / LETTERS;
                shifts[1] = (index - FIRST_PAIR) % LETTERS;
            } else {
                round = 3;
                shifts[0] = (index - FIRST_TRIPLE) / PAIRS;
                shifts[1] = (index - FIRST_TRIPLE) / LETTERS % LETTERS;
                shifts[2] = (index - FIRST_TRIPLE) % LETTERS;
            }
        }

        int plainAt(int i) {
            return i >= 0 && i < length && i < MAX_NUMBERS ? Math.floorMod(text[i] - shifts[turnAt(i)], LETTERS) : 0;
        }

        int nameIn() {
            if (room.nameLength < 1) {
                return NONE;
            }
            for (int at = 0; at + room.nameLength <= length; at++) {
                if (nameIsAt(at)) {
                    return at;
                }
            }
            return NONE;
        }

        private boolean nameIsAt(int at) {
            for (int i = 0; i < room.nameLength && i < MAX_NAME; i++) {
                if (plainAt(at + i) != room.nameLetters[i]) {
                    return false;
                }
            }
            return true;
        }

        /** At one place unlike shifts make unlike letters, so shifts are counted in their stead. */
        int mostUnlike() {
            findShifts();
            int first = NONE;
            int most = 0;
            for (int i = 0; i < length; i++) {
                int unlike = Integer.bitCount(seen[0] | seen[1 + i % 2] | seen[3 + i % 3]);
                if (unlike > most) {
                    most = unlike;
                    first = i;
                }
            }
            return first;
        }

        private void findShifts() {
            Arrays.fill(seen, 0);
            for (int index = 0; index < ALL; index++) {
                if ((fits[index >> 5] >> (index & 31) & 1) != 0) {
                    setShifts(index);
                    int at = round == 1 ? 0 : round == 2 ? 1 : 3;
                    for (int i = 0; i < round && i < MAX_SHIFTS; i++) {
                        seen[at + i] |= 1 << shifts[i];
                    }
                }
            }
        }
    }
}
