import java.util.ArrayList;
import java.util.Arrays;
import java.util.HashMap;
import java.util.List;
import java.util.Map;
import java.util.Random;

/**
 * Random runs of calls, each answer held against a model that follows the document's words by trying everything:
 * all rows, all keys, minute by minute at the table to mend. Arguments: how many runs, the first seed.
 */
public final class ModelTest {
    private static final int CALLS = 512;

    public static void main(String[] args) {
        int runs = args.length > 0 ? Integer.parseInt(args[0]) : 400;
        long first = args.length > 1 ? Long.parseLong(args[1]) : 1;
        int wrong = 0;
        Map<String, Integer> seen = new HashMap<>();
        for (int run = 0; run < runs && wrong < 5; run++) {
            wrong += new Run(first + run, seen).go() ? 0 : 1;
        }
        if (args.length > 2) {
            System.out.println(new java.util.TreeMap<>(seen));
        }
        System.out.println(wrong == 0 ? runs + " random runs agree with the model" : wrong + " runs differ from the model");
        if (wrong != 0) {
            System.exit(1);
        }
    }

    /** One object and one model, given the same calls. */
    private static final class Run {
        final Random random;
        final long seed;
        final Map<String, Integer> seen;
        final BlackCabinet real = new BlackCabinet();
        final Model model = new Model();
        final List<String> log = new ArrayList<>();
        int calls = 0;
        boolean fine = true;

        Run(long seed, Map<String, Integer> seen) {
            this.seed = seed;
            this.seen = seen;
            random = new Random(seed * 7919);
        }

        int upTo(int n) {
            return random.nextInt(n + 1);
        }

        /** Mostly 0 to n - 1, sometimes just outside or far away. */
        int about(int n) {
            int way = upTo(19);
            if (way == 0) {
                return -1;
            }
            if (way == 1) {
                return n;
            }
            if (way == 2 && upTo(3) == 0) {
                return random.nextInt();
            }
            return n < 1 ? 0 : random.nextInt(n);
        }

        void check(String call, long got, long want) {
            calls++;
            log.add(call + " = " + got);
            String kind = call.substring(0, call.indexOf('(')) + (want < 0 && want > -40 ? want : "");
            seen.merge(kind, 1, Integer::sum);
            if (got != want && fine) {
                fine = false;
                System.out.println("seed " + seed + ": " + call + " answered " + got + ", the model says " + want);
                for (String row : log.subList(Math.max(0, log.size() - 40), log.size())) {
                    System.out.println("    " + row);
                }
                System.out.println("    room: " + model.text);
            }
        }

        boolean go() {
            while (calls < CALLS && fine) {
                int way = upTo(99);
                if (calls == 0 && upTo(9) > 0 || way < 2) {
                    newRoom();
                } else if (way < 12) {
                    newTray();
                } else {
                    anyCall();
                }
            }
            return fine;
        }

        void newRoom() {
            String text = new TextMaker(random).make();
            feedText(text);
            if (calls < CALLS && fine) {
                int n = upTo(30) == 0 ? about(text.length()) : Math.min(text.length(), model.tape.length());
                check("room(" + n + ")", real.room(n), model.room(n));
                check("fault(0)", real.fault(0), model.fault(0));
                check("fault(1)", real.fault(1), model.fault(1));
                for (int what = -1; what < 14; what++) {
                    check("count(" + what + ")", real.count(what), model.count(what));
                }
            }
        }

        void feedText(String text) {
            StringBuilder whole = new StringBuilder(text);
            while (whole.length() % 20 != 0) {
                whole.append(upTo(3) == 0 ? 'x' : ' ');
            }
            for (int i = 0; i < whole.length() && calls < CALLS - 30; i += 20) {
                int[] w = new int[5];
                for (int j = 0; j < 20; j++) {
                    w[j / 4] = w[j / 4] << 8 | whole.charAt(i + j);
                }
                check("feed(..)", real.feed(w[0], w[1], w[2], w[3], w[4]), model.feed(w));
            }
        }

        void newTray() {
            int tray = about(4);
            int sort = upTo(9) == 0 ? about(4) : 1 + upTo(2);
            int kind = upTo(3);
            int n = upTo(20) == 0 ? about(41) : kind == 0 ? 1 + upTo(upTo(1) == 0 ? 39 : 12) : upTo(7);
            check("numbers(" + tray + ", " + sort + ", " + n + ")", real.numbers(tray, sort, n), model.numbers(tray, sort, n));
            for (int i = 0; i < n && i < 40 && calls < CALLS && fine; i++) {
                long v = kind == 0 ? cipherNumber() : kind == 1 ? deedNumber() : rowNumber();
                check("write(" + tray + ", " + i + ", " + v + ")", real.write(tray, i, v), model.write(tray, i, v));
            }
        }

        long cipherNumber() {
            return upTo(300) == 0 ? 26 + upTo(1) * -27 : upTo(1) == 0 ? upTo(25) : upTo(3);
        }

        long deedNumber() {
            int way = upTo(20);
            if (way < 5) {
                return 300 + upTo(Math.max(0, model.hands.size() - 1)) + (upTo(20) == 0 ? 1 : 0);
            }
            if (way < 9) {
                return way < 7 ? 100 : 200;
            }
            return way == 9 ? random.nextLong() : rowNumber();
        }

        long rowNumber() {
            if (upTo(40) == 0) {
                return upTo(1) == 0 ? upTo(320) - 10 : (1L << 32) + upTo(5);
            }
            int code = 0;
            for (int i = 0; i < 6; i++) {
                int k = upTo(Math.max(0, model.letters.size() - 1));
                int h = upTo(Math.max(0, model.hands.size() - 1));
                code = 10 * h + k;
                if (model.isLetter(k) && model.isHand(h) && model.reads(h, k) && (model.now.read >> k & 1) == 0) {
                    break;
                }
            }
            return code;
        }

        int anySet() {
            return about(1 << model.letters.size());
        }

        void anyCall() {
            int t = about(4);
            int k = about(model.letters.size());
            int h = about(model.hands.size());
            switch (upTo(43)) {
                case 0: { int w = about(9); check("letter(" + k + ", " + w + ")", real.letter(k, w), model.letter(k, w)); break; }
                case 1: { int w = about(4); check("hand(" + h + ", " + w + ")", real.hand(h, w), model.hand(h, w)); break; }
                case 2: { int c = about(model.courts.size()); check("court(" + c + ")", real.court(c), model.court(c)); break; }
                case 3: { int w = about(3); check("takes(" + k + ", " + w + ")", real.takes(k, w), model.takes(k, w)); break; }
                case 4: check("copies(" + k + ", " + h + ")", real.copies(k, h), model.copies(k, h)); break;
                case 5: { int i = about(9); check("name(" + i + ")", real.name(i), model.name(i)); break; }
                case 6: { int n = upTo(2) == 0 ? model.now.x : random.nextInt(); check("seed(" + n + ")", real.seed(n), model.seed(n)); check("count(9)", real.count(9), model.count(9)); break; }
                case 7: check("morning(" + t + ")", real.morning(t), model.morning(t)); undoSome(); break;
                case 8: check("byRule()", real.byRule(), model.byRule()); undoSome(); break;
                case 9: check("sleeps(" + h + ")", real.sleeps(h), model.sleeps(h)); break;
                case 10: case 11: { int n = upTo(2) == 0 ? about(12) : 1 + upTo(2); check("undo(" + n + ")", real.undo(n), model.undo(n)); break; }
                case 12: case 13: { int w = about(4); check("judge(" + t + ", " + w + ")", real.judge(t, w), model.judge(t, w)); break; }
                case 14: check("perform(" + t + ")", real.perform(t), model.perform(t)); undoSome(); break;
                case 15: { int s = random.nextInt(); int n = upTo(4) == 0 ? about(32) : 1 + upTo(3); check("mornings(" + s + ", " + n + ")", real.mornings(s, n), model.mornings(s, n)); undoSome(); break; }
                case 16: case 17: { int w = about(3); check("row(" + t + ", " + w + ")", real.row(t, w), model.row(t, w)); break; }
                case 18: case 19: { int w = about(3); int i = about(4); check("when(" + t + ", " + i + ", " + w + ")", real.when(t, i, w), model.when(t, i, w)); break; }
                case 20: { int w = about(4); check("best(" + w + ")", real.best(w), model.best(w)); break; }
                case 21: { int i = about(4); check("bestAt(" + i + ")", real.bestAt(i), model.bestAt(i)); break; }
                case 22: { int n = upTo(2) == 0 ? about(1000) : upTo(80); check("bestBy(" + n + ")", real.bestBy(n), model.bestBy(n)); break; }
                case 23: { int n = upTo(3) == 0 ? about(500) : upTo(30); check("noonFor(" + n + ")", real.noonFor(n), model.noonFor(n)); break; }
                case 24: check("without(" + h + ")", real.without(h), model.without(h)); break;
                case 25: check("hindrance()", real.hindrance(), model.hindrance()); break;
                case 26: check("hopeless()", real.hopeless(), model.hopeless()); break;
                case 27: { int w = about(3); check("rule(" + w + ")", real.rule(w), model.rule(w)); break; }
                case 28: check("ruleBy(" + k + ")", real.ruleBy(k), model.ruleBy(k)); break;
                case 29: { int s = upTo(2) == 0 ? anySet() : model.ruleOfAll(upTo(7)); check("slept(" + s + ")", real.slept(s), model.slept(s)); break; }
                case 30: { int s = upTo(2) == 0 ? anySet() : model.ruleOfAll(upTo(7)); check("sleeper(" + s + ")", real.sleeper(s), model.sleeper(s)); break; }
                case 31: { int s = anySet(); check("quiet(" + s + ")", real.quiet(s), model.quiet(s)); break; }
                case 32: { int n = about(7); check("safest(" + n + ")", real.safest(n), model.safest(n)); break; }
                case 33: { int q = about(10001); check("bold(" + q + ")", real.bold(q), model.bold(q)); break; }
                case 34: { int s = anySet(); int w = about(2); check("belief(" + s + ", " + w + ")", real.belief(s, w), model.belief(s, w)); break; }
                case 35: check("now()", real.now(), model.now()); check("tellsMost()", real.tellsMost(), model.tellsMost()); break;
                case 36: check("keys(" + t + ")", real.keys(t), model.keys(t)); break;
                case 37: { int n = Math.max(0, model.keys(t)); int i = about(n); check("keyAt(" + t + ", " + i + ")", real.keyAt(t, i), model.keyAt(t, i)); break; }
                case 38: { int key = anyKey(t); check("place(" + t + ", " + key + ")", real.place(t, key), model.place(t, key)); break; }
                case 39: { int key = anyKey(t); int to = about(4); check("plain(" + t + ", " + key + ", " + to + ")", real.plain(t, key, to), model.plain(t, key, to)); break; }
                case 40: check("look(" + t + ")", real.look(t), model.look(t)); break;
                case 41: check("lists(" + t + ")", real.lists(t), model.lists(t)); break;
                case 42: { int i = about(2); check("image(" + i + ")", real.image(i), model.image(i)); break; }
                default: { int i = about(2); check("restore(" + i + ")", real.restore(i), model.restore(i));
                    for (int what = 0; what < 13; what++) { check("count(" + what + ")", real.count(what), model.count(what)); } break; }
            }
        }

        /** Else all would soon be read, and nothing left to ask for. */
        void undoSome() {
            check("count(5)", real.count(5), model.count(5));
            if (upTo(4) > 0) {
                check("undo(1)", real.undo(1), model.undo(1));
                int n = random.nextInt();
                check("seed(" + n + ")", real.seed(n), model.seed(n));
                if (upTo(4) > 0) {
                    check("undo(1)", real.undo(1), model.undo(1));
                }
            }
        }

        int anyKey(int tray) {
            if (upTo(1) == 0) {
                int n = model.keys(tray);
                return n > 0 ? model.keyAt(tray, upTo(n - 1)) : upTo(25);
            }
            return about(upTo(1) == 0 ? 30 : upTo(1) == 0 ? 800 : 18600);
        }
    }

    /** Texts, most of them right, of all sorts of lines; the others with a change at some place. */
    private static final class TextMaker {
        final Random random;
        final StringBuilder out = new StringBuilder();
        int courts = 0;

        TextMaker(Random random) {
            this.random = random;
        }

        int upTo(int n) {
            return random.nextInt(n + 1);
        }

        String make() {
            line("noon " + (1 + upTo(upTo(2) == 0 ? 299 : upTo(1) == 0 ? 100 : 40)));
            int hands = upTo(9) == 0 ? upTo(4) : 1 + upTo(2);
            int letters = upTo(20) == 0 ? 5 + upTo(2) : upTo(3) == 0 ? upTo(4) : 3 + upTo(1);
            int[] order = new int[hands + letters + 8];
            for (int i = 0; i < order.length; i++) {
                order[i] = i < hands ? 0 : i < hands + letters ? 1 : 2;
            }
            for (int i = order.length - 1; i > 0; i--) {
                int j = upTo(i);
                int swap = order[i];
                order[i] = order[j];
                order[j] = swap;
            }
            for (int sort : order) {
                if (sort == 0) {
                    line(hand());
                } else if (sort == 1) {
                    letter();
                } else if (upTo(1) == 0) {
                    line(other());
                }
            }
            String text = out.substring(0, Math.min(900, out.length()));
            return upTo(4) == 0 && text.length() > 0 ? changed(text) : text;
        }

        void line(String words) {
            out.append(words).append(upTo(5) == 0 ? " ;\n" : ";");
        }

        String hand() {
            StringBuilder s = new StringBuilder("hand " + upTo(3));
            for (int i = 1 + upTo(3); i > 0; i--) {
                s.append(" ").append(upTo(3));
            }
            return s + (upTo(1) == 0 ? " skill " + upTo(9) : "");
        }

        void letter() {
            if (courts == 0 || courts < 4 && upTo(3) == 0) {
                line("court " + (upTo(3) == 0 ? upTo(1) * 100 : upTo(100)));
                courts++;
            }
            StringBuilder s = new StringBuilder("letter " + upTo(courts - 1) + " tongue " + upTo(3));
            for (int i = upTo(5); i > 0; i--) {
                String[] flags = {" pages " + (1 + upTo(upTo(3) == 0 ? 98 : 4)), " worth " + upTo(upTo(1) == 0 ? 99 : 3),
                    " seal " + upTo(9), " sign " + upTo(9), " says yes", " says no"};
                s.append(flags[upTo(5)]);
            }
            line(s.toString());
        }

        String other() {
            switch (upTo(7)) {
                case 0: return "opens : " + sum(0, false);
                case 1: return "copies: " + sum(0, true);
                case 2: return "mends :" + sum(0, false);
                case 3: return "shows:" + sum(0, false);
                case 4: return "prior " + (upTo(2) == 0 ? upTo(1) * 100 : upTo(100));
                default: return "name " + word();
            }
        }

        String word() {
            if (upTo(20) == 0) {
                return upTo(1) == 0 ? "noon" : "pages";
            }
            StringBuilder s = new StringBuilder();
            for (int i = 1 + (upTo(9) == 0 ? upTo(8) : upTo(2)); i > 0; i--) {
                s.append((char) ('a' + upTo(upTo(1) == 0 ? 25 : 2)));
            }
            return s.toString();
        }

        String sum(int depth, boolean skill) {
            StringBuilder s = new StringBuilder(term(depth, skill));
            for (int i = upTo(2); i > 0; i--) {
                s.append(upTo(1) == 0 ? " + " : "-").append(term(depth, skill));
            }
            return s.toString();
        }

        String term(int depth, boolean skill) {
            StringBuilder s = new StringBuilder(atom(depth, skill));
            for (int i = upTo(9) == 0 ? upTo(3) : 0; i > 0; i--) {
                s.append("*").append(atom(depth, skill));
            }
            return s.toString();
        }

        String atom(int depth, boolean skill) {
            String[] facts = {"pages", "seal", "sign", "tongue", "skill"};
            int way = upTo(9);
            if (way < 5) {
                return "" + (upTo(5) == 0 ? upTo(999) : upTo(9));
            }
            if (way == 5 && depth < 7 && out.length() < 700) {
                return upTo(3) == 0 ? "((" + sum(depth + 2, skill) + "))" : "(" + sum(depth + 1, skill) + ")";
            }
            return facts[upTo(skill ? 4 : 3)];
        }

        String changed(String text) {
            String[] bits = {";", ":", "+", "(", ")", "noon 5;", "hand", "skill", "7", "1000", "A", "\t", " ", "", "name",
                "letter 0 tongue 1;", "court 5;", "hand 1;", "yes", "says", "*", "\u00e9", "12", "a", "(((((((1)))))))"};
            int at = upTo(text.length());
            int to = Math.min(text.length(), at + (upTo(1) == 0 ? 0 : upTo(6)));
            String s = text.substring(0, at) + bits[upTo(bits.length - 1)] + text.substring(to);
            s = upTo(9) == 0 ? s.substring(0, upTo(s.length())) : s;
            return s.substring(0, Math.min(900, s.length()));
        }
    }

    /** A fault, as it stops the model's reading. */
    private static final class Fault extends RuntimeException {
        private static final long serialVersionUID = 1L;
        final int kind;
        final int place;

        Fault(int kind, int place) {
            super(null, null, false, false);
            this.kind = kind;
            this.place = place;
        }
    }

    private record Token(String s, int place) { }

    private record State(int read, int found, int awake, int days, int x) { }

    private record Sheet(String text, List<int[]> hands, List<Integer> courts, List<Map<String, Integer>> letters,
        Map<String, String> laws, int noon, int prior, String name, int lines) { }

    private interface Law {
        long of(Map<String, Integer> facts);
    }

    /** The document's words, as plainly as can be. */
    private static final class Model {
        String tape = "";
        int faultKind = 0;
        int faultPlace = -1;

        String text = "";
        List<int[]> hands = new ArrayList<>();
        List<Integer> courts = new ArrayList<>();
        List<Map<String, Integer>> letters = new ArrayList<>();
        Map<String, Law> laws = new HashMap<>();
        int noon = 0;
        int prior = 50;
        String name = "";
        int lines = 0;

        State now = new State(0, 0, 0, 0, 0);
        final List<State> past = new ArrayList<>();
        final long[][] trays = new long[4][];
        final int[] sorts = new int[4];
        final String[] imageTexts = new String[2];
        final State[] imageStates = new State[2];
        final Map<String, int[]> bestKept = new HashMap<>();

        int feed(int[] words) {
            if (tape.length() + 20 > 900) {
                return -5;
            }
            for (int w : words) {
                for (int i = 3; i >= 0; i--) {
                    tape += (char) (w >> 8 * i & 255);
                }
            }
            return tape.length();
        }

        int room(int n) {
            if (n < 0 || n > tape.length()) {
                return -3;
            }
            String told = tape.substring(0, n);
            tape = "";
            Model fresh = new Model();
            try {
                fresh.parse(told);
            } catch (Fault f) {
                faultKind = f.kind;
                faultPlace = f.place;
                return -30 - f.kind;
            }
            faultKind = 0;
            faultPlace = -1;
            take(fresh);
            text = told;
            now = new State(0, 0, (1 << hands.size()) - 1, 0, 0);
            past.clear();
            return lines;
        }

        void take(Model other) {
            hands = other.hands;
            courts = other.courts;
            letters = other.letters;
            laws = other.laws;
            noon = other.noon;
            prior = other.prior;
            name = other.name;
            lines = other.lines;
            bestKept.clear();
        }

        // ---- the text

        List<Token> tokens = new ArrayList<>();
        int at = 0;

        void parse(String s) {
            for (int i = 0; i < s.length();) {
                int j = i + 1;
                char c = s.charAt(i);
                if (c == 10 || c == 32) {
                    i++;
                    continue;
                }
                String run = "a".equals(sortOf(c)) ? "[a-z]" : "0".equals(sortOf(c)) ? "[0-9]" : null;
                while (run != null && j < s.length() && s.substring(j, j + 1).matches(run)) {
                    j++;
                }
                tokens.add(new Token(s.substring(i, j), i));
                i = j;
            }
            tokens.add(new Token("", s.length()));
            want("noon");
            noon = number(1, 300);
            want(";");
            lines = 1;
            while (!peek().s.isEmpty()) {
                line();
                want(";");
                lines++;
            }
        }

        static String sortOf(char c) {
            return c >= 'a' && c <= 'z' ? "a" : c >= '0' && c <= '9' ? "0" : ";:+-*()".indexOf(c) >= 0 ? ";" : "?";
        }

        Token peek() {
            Token t = tokens.get(at);
            if (!t.s.isEmpty() && ("?".equals(sortOf(t.s.charAt(0))) || t.s.matches("[0-9]{4,}"))) {
                throw new Fault(1, t.place);
            }
            return t;
        }

        Fault fault(Token t, int kind) {
            return new Fault(kind, t.place);
        }

        void want(String s) {
            Token t = peek();
            if (!t.s.equals(s)) {
                throw fault(t, 2);
            }
            at++;
        }

        int number(int least, int most) {
            Token t = peek();
            if (!t.s.matches("[0-9]+")) {
                throw fault(t, 2);
            }
            int n = Integer.parseInt(t.s);
            if (n < least || n > most) {
                throw fault(t, 3);
            }
            at++;
            return n;
        }

        void line() {
            Token t = peek();
            switch (t.s) {
                case "hand":
                    if (hands.size() == 3) {
                        throw fault(t, 4);
                    }
                    at++;
                    int bits = 1 << number(0, 3);
                    while (peek().s.matches("[0-9]+")) {
                        bits |= 1 << number(0, 3);
                    }
                    int skill = 0;
                    if (peek().s.equals("skill")) {
                        at++;
                        skill = number(0, 9);
                    }
                    hands.add(new int[] {bits, skill});
                    break;
                case "court":
                    if (courts.size() == 4) {
                        throw fault(t, 4);
                    }
                    at++;
                    courts.add(number(0, 100));
                    break;
                case "letter":
                    if (letters.size() == 6) {
                        throw fault(t, 4);
                    }
                    at++;
                    letterLine();
                    break;
                case "prior":
                    at++;
                    prior = number(0, 100);
                    break;
                case "name":
                    at++;
                    if (!peek().s.matches("[a-z]{1,8}")) {
                        throw fault(peek(), 2);
                    }
                    name = peek().s;
                    at++;
                    break;
                case "opens": case "copies": case "mends": case "shows":
                    at++;
                    want(":");
                    laws.put(t.s, sum(t.s.equals("copies"), 0));
                    break;
                default:
                    throw fault(t, 2);
            }
        }

        void letterLine() {
            Map<String, Integer> f = new HashMap<>(Map.of("pages", 1, "worth", 1, "seal", 0, "sign", 0, "says", 0));
            f.put("court", number(0, courts.size() - 1));
            want("tongue");
            f.put("tongue", number(0, 3));
            while (!peek().s.equals(";")) {
                Token t = peek();
                if (!t.s.matches("pages|worth|seal|sign|says")) {
                    throw fault(t, 2);
                }
                at++;
                if (t.s.equals("says")) {
                    if (!peek().s.matches("yes|no")) {
                        throw fault(peek(), 2);
                    }
                    f.put("says", peek().s.equals("yes") ? 1 : 2);
                    at++;
                } else {
                    f.put(t.s, number(t.s.equals("pages") ? 1 : 0, t.s.matches("pages|worth") ? 99 : 9));
                }
            }
            letters.add(f);
        }

        static long kept(long n) {
            return n < -1000000 ? -1000000 : n > 1000000 ? 1000000 : n;
        }

        Law sum(boolean skill, int open) {
            Law left = term(skill, open);
            while (peek().s.matches("[-+]")) {
                boolean more = peek().s.equals("+");
                at++;
                Law a = left;
                Law b = term(skill, open);
                left = f -> kept(more ? a.of(f) + b.of(f) : a.of(f) - b.of(f));
            }
            return left;
        }

        Law term(boolean skill, int open) {
            Law left = atom(skill, open);
            while (peek().s.equals("*")) {
                at++;
                Law a = left;
                Law b = atom(skill, open);
                left = f -> kept(a.of(f) * b.of(f));
            }
            return left;
        }

        Law atom(boolean skill, int open) {
            Token t = peek();
            if (t.s.equals("(")) {
                if (open == 6) {
                    throw fault(t, 4);
                }
                at++;
                Law in = sum(skill, open + 1);
                want(")");
                return in;
            }
            if (t.s.matches("[0-9]+")) {
                at++;
                long n = Long.parseLong(t.s);
                return f -> n;
            }
            if (t.s.matches("pages|seal|sign|tongue") || skill && t.s.equals("skill")) {
                at++;
                return f -> f.get(t.s);
            }
            throw fault(t, 2);
        }

        // ---- minutes

        int lawed(String law, int k, int skill, int least, int most, int without) {
            if (!laws.containsKey(law)) {
                return without;
            }
            Map<String, Integer> f = new HashMap<>(letters.get(k));
            f.put("skill", skill);
            return (int) Math.max(least, Math.min(most, laws.get(law).of(f)));
        }

        int opens(int k) {
            return lawed("opens", k, 0, 0, 999, 2);
        }

        int mends(int k) {
            return lawed("mends", k, 0, 0, 999, letters.get(k).get("seal") + 3);
        }

        int shows(int k) {
            return lawed("shows", k, 0, 0, 100, 10);
        }

        int copying(int k, int h) {
            int skill = hands.get(h)[1];
            return lawed("copies", k, skill, 0, 999, Math.max(1, letters.get(k).get("pages") * 5 - skill));
        }

        boolean reads(int h, int k) {
            return (hands.get(h)[0] >> letters.get(k).get("tongue") & 1) != 0;
        }

        /** Of each in a row {open, copied, mended}. */
        int[][] times(List<Integer> row) {
            int[][] t = new int[row.size()][3];
            int open = 0;
            int[] busy = new int[3];
            for (int i = 0; i < row.size(); i++) {
                int k = row.get(i) % 10;
                int h = row.get(i) / 10;
                open += openTimes()[k];
                t[i][0] = open;
                busy[h] = Math.max(busy[h], open) + copyTimes()[k][h];
                t[i][1] = busy[h];
                t[i][2] = -1;
            }
            int clock = 0;
            for (int done = 0; done < row.size();) {
                int next = -1;
                for (int i = 0; i < row.size(); i++) {
                    if (t[i][2] < 0 && t[i][1] <= clock && (next < 0 || t[i][1] < t[next][1])) {
                        next = i;
                    }
                }
                if (next < 0) {
                    clock++;
                } else {
                    clock += mendTimes()[row.get(next) % 10];
                    t[next][2] = clock;
                    done++;
                }
            }
            return t;
        }

        int[] openKept;
        int[] mendKept;
        int[][] copyKept;
        Object keptFor;

        void keepTimes() {
            if (keptFor != letters) {
                keptFor = letters;
                openKept = new int[letters.size()];
                mendKept = new int[letters.size()];
                copyKept = new int[letters.size()][hands.size()];
                for (int k = 0; k < letters.size(); k++) {
                    openKept[k] = opens(k);
                    mendKept[k] = mends(k);
                    for (int h = 0; h < hands.size(); h++) {
                        copyKept[k][h] = copying(k, h);
                    }
                }
            }
        }

        int[] openTimes() {
            keepTimes();
            return openKept;
        }

        int[] mendTimes() {
            keepTimes();
            return mendKept;
        }

        int[][] copyTimes() {
            keepTimes();
            return copyKept;
        }

        int end(List<Integer> row) {
            int last = 0;
            for (int[] t : times(row)) {
                last = Math.max(last, t[2]);
            }
            return last;
        }

        // ---- asking for the room

        int fault(int what) {
            return what == 0 ? faultKind : what == 1 ? faultPlace : -1;
        }

        boolean isLetter(int k) {
            return k >= 0 && k < letters.size();
        }

        boolean isHand(int h) {
            return h >= 0 && h < hands.size();
        }

        int letter(int k, int what) {
            if (!isLetter(k) || what < 0 || what > 8) {
                return -2;
            }
            String[] facts = {"court", "tongue", "pages", "worth", "seal", "sign", "says"};
            return what < 7 ? letters.get(k).get(facts[what]) : (what == 7 ? now.read : now.found) >> k & 1;
        }

        int hand(int h, int what) {
            if (!isHand(h) || what < 0 || what > 3) {
                return -2;
            }
            int set = 0;
            for (int k = 0; k < letters.size(); k++) {
                set |= reads(h, k) ? 1 << k : 0;
            }
            return what < 2 ? hands.get(h)[what] : what == 2 ? now.awake >> h & 1 : set;
        }

        int court(int c) {
            return c >= 0 && c < courts.size() ? courts.get(c) : -2;
        }

        int takes(int k, int what) {
            return !isLetter(k) || what < 0 || what > 2 ? -2 : what == 0 ? opens(k) : what == 1 ? mends(k) : shows(k);
        }

        int copies(int k, int h) {
            return isLetter(k) && isHand(h) ? copying(k, h) : -2;
        }

        int name(int i) {
            return i < 0 ? -3 : i < name.length() ? name.charAt(i) - 'a' : -1;
        }

        // ---- deeds

        void keep() {
            past.add(now);
            if (past.size() > 10) {
                past.remove(0);
            }
        }

        int seed(int n) {
            int was = now.x;
            keep();
            setX(n);
            return was;
        }

        void setX(int n) {
            now = new State(now.read, now.found, now.awake, now.days, n);
        }

        int draw() {
            setX(1103515245 * now.x + 12345);
            return now.x >>> 16;
        }

        int doMorning(List<Integer> row) {
            int shown = 0;
            for (int code : row) {
                int k = code % 10;
                boolean out = draw() % 100 < shows(k);
                shown += out ? 1 : 0;
                now = new State(now.read | 1 << k, now.found | (out ? 1 << k : 0), now.awake, now.days, now.x);
            }
            now = new State(now.read, now.found, now.awake, now.days + 1, now.x);
            return shown;
        }

        List<Integer> ruleRow(int read, int awake) {
            List<Integer> row = new ArrayList<>();
            for (int k = 0; k < letters.size(); k++) {
                if ((read >> k & 1) != 0) {
                    continue;
                }
                int by = -1;
                int soonest = 0;
                for (int h = 0; h < hands.size(); h++) {
                    if ((awake >> h & 1) != 0 && reads(h, k)) {
                        List<Integer> longer = new ArrayList<>(row);
                        longer.add(10 * h + k);
                        int copied = times(longer)[row.size()][1];
                        if (by < 0 || copied < soonest) {
                            by = h;
                            soonest = copied;
                        }
                    }
                }
                if (by >= 0) {
                    row.add(10 * by + k);
                    if (end(row) > noon) {
                        row.remove(row.size() - 1);
                    }
                }
            }
            return row;
        }

        int setOf(List<Integer> row) {
            int set = 0;
            for (int code : row) {
                set |= 1 << code % 10;
            }
            return set;
        }

        int whyNot(List<Integer> row, long v) {
            if (v < 0 || v > 29 || !isLetter((int) v % 10) || !isHand((int) v / 10)) {
                return 1;
            }
            int k = (int) v % 10;
            int h = (int) v / 10;
            if ((now.read >> k & 1) != 0 || (setOf(row) >> k & 1) != 0 || (now.awake >> h & 1) == 0 || !reads(h, k)) {
                return 2;
            }
            List<Integer> longer = new ArrayList<>(row);
            longer.add((int) v);
            return end(longer) > noon ? 3 : 0;
        }

        int deed(List<Integer> row, long v) {
            if (v == 100) {
                doMorning(row);
                row.clear();
                return 0;
            }
            if (v == 200) {
                doMorning(ruleRow(now.read, now.awake));
                row.clear();
                return 0;
            }
            if (v >= 300 && v < 300 + hands.size()) {
                now = new State(now.read, now.found, now.awake ^ 1 << (int) (v - 300), now.days, now.x);
                return 0;
            }
            int why = whyNot(row, v);
            if (why == 0) {
                row.add((int) v);
            }
            return why;
        }

        /** {the first place that can't be, why}. */
        int[] doAll(int tray) {
            List<Integer> row = new ArrayList<>();
            for (int i = 0; i < trays[tray].length; i++) {
                int why = deed(row, trays[tray][i]);
                if (why != 0) {
                    return new int[] {i, why};
                }
            }
            return new int[] {-1, 0};
        }

        int trayCode(int tray) {
            return tray < 0 || tray > 3 ? -2 : trays[tray] == null ? -6 : 0;
        }

        /** {the first place that can't be, why}; what is ahead comes into the row. */
        int[] lay(int tray, List<Integer> row) {
            for (int i = 0; i < trays[tray].length; i++) {
                int why = whyNot(row, trays[tray][i]);
                if (why != 0) {
                    return new int[] {i, why};
                }
                row.add((int) trays[tray][i]);
            }
            return new int[] {-1, 0};
        }

        int morning(int tray) {
            if (trayCode(tray) != 0) {
                return trayCode(tray);
            }
            List<Integer> row = new ArrayList<>();
            int why = lay(tray, row)[1];
            if (why != 0) {
                return -10 - why;
            }
            keep();
            return doMorning(row);
        }

        int byRule() {
            keep();
            List<Integer> row = ruleRow(now.read, now.awake);
            doMorning(row);
            return setOf(row);
        }

        int sleeps(int h) {
            if (!isHand(h)) {
                return -2;
            }
            keep();
            deed(new ArrayList<>(), 300 + h);
            return now.awake >> h & 1;
        }

        int undo(int n) {
            if (n < 1 || n > 10 || n > past.size()) {
                return -3;
            }
            for (int i = 0; i < n; i++) {
                now = past.remove(past.size() - 1);
            }
            return past.size();
        }

        int judge(int tray, int what) {
            if (what < 0 || what > 3 || trayCode(tray) == -2) {
                return -2;
            }
            if (trayCode(tray) != 0) {
                return trayCode(tray);
            }
            State was = now;
            int[] stop = doAll(tray);
            State then = now;
            now = was;
            return what < 2 ? stop[what] : what == 2 ? then.read : then.days;
        }

        int perform(int tray) {
            if (trayCode(tray) != 0) {
                return trayCode(tray);
            }
            State was = now;
            int[] stop = doAll(tray);
            int done = stop[0] < 0 ? trays[tray].length : stop[0];
            if (done > 0) {
                State then = now;
                now = was;
                keep();
                now = then;
            }
            return done;
        }

        int mornings(int seed, int times) {
            if (times < 1 || times > 30) {
                return -3;
            }
            if (hands.isEmpty()) {
                return -5;
            }
            keep();
            setX(seed);
            for (int i = 0; i < times; i++) {
                int way = draw() % 3;
                deed(new ArrayList<>(), way == 0 ? 200 : 300 + draw() % hands.size());
            }
            return now.read;
        }

        // ---- rows

        int row(int tray, int what) {
            if (what < 0 || what > 2 || trayCode(tray) == -2) {
                return -2;
            }
            if (trayCode(tray) != 0) {
                return trayCode(tray);
            }
            List<Integer> row = new ArrayList<>();
            int[] stop = lay(tray, row);
            return what < 2 ? stop[what] : end(row);
        }

        int when(int tray, int i, int what) {
            if (what < 0 || what > 2 || trayCode(tray) == -2) {
                return -2;
            }
            if (trayCode(tray) != 0) {
                return trayCode(tray);
            }
            if (i < 0 || i >= trays[tray].length) {
                return -7;
            }
            List<Integer> row = new ArrayList<>();
            lay(tray, row);
            return i >= row.size() ? -1 : times(row.subList(0, i + 1))[i][what];
        }

        int worthOf(int set) {
            int sum = 0;
            for (int k = 0; k < letters.size(); k++) {
                sum += (set >> k & 1) * letters.get(k).get("worth");
            }
            return sum;
        }

        /** By trying all rows: BEST as {worth, end, codes ..}. */
        int[] bestOf(int read, int awake, int by) {
            String key = read + " " + awake + " " + by;
            return bestKept.computeIfAbsent(key, x -> {
                int[][] best = {{0, 0}};
                tryRows(new ArrayList<>(), read, awake, by, best);
                return best[0];
            });
        }

        void tryRows(List<Integer> row, int read, int awake, int by, int[][] best) {
            int end = end(row);
            if (end > by) {
                return;
            }
            int worth = worthOf(setOf(row));
            if (isBetter(worth, row, best[0])) {
                best[0] = new int[row.size() + 2];
                best[0][0] = worth;
                best[0][1] = end;
                for (int i = 0; i < row.size(); i++) {
                    best[0][i + 2] = row.get(i);
                }
            }
            for (int code = 29; code >= 0; code--) {
                int k = code % 10;
                int h = code / 10;
                boolean can = isLetter(k) && isHand(h) && (awake >> h & 1) != 0 && reads(h, k);
                if (can && ((read | setOf(row)) >> k & 1) == 0) {
                    row.add(code);
                    tryRows(row, read, awake, by, best);
                    row.remove(row.size() - 1);
                }
            }
        }

        static boolean isBetter(int worth, List<Integer> row, int[] than) {
            if (worth != than[0]) {
                return worth > than[0];
            }
            if (row.size() != than.length - 2) {
                return row.size() < than.length - 2;
            }
            for (int i = 0; i < row.size(); i++) {
                if (row.get(i) != than[i + 2]) {
                    return row.get(i) < than[i + 2];
                }
            }
            return false;
        }

        int best(int what) {
            if (what < 0 || what > 3) {
                return -2;
            }
            int[] b = bestOf(now.read, now.awake, noon);
            int set = 0;
            for (int i = 2; i < b.length; i++) {
                set |= 1 << b[i] % 10;
            }
            return what == 0 ? b[0] : what == 1 ? b.length - 2 : what == 2 ? set : b[1];
        }

        int bestAt(int i) {
            int[] b = bestOf(now.read, now.awake, noon);
            return i < 0 ? -3 : i < b.length - 2 ? b[i + 2] : -1;
        }

        int bestBy(int by) {
            return by < 0 || by > 999 ? -3 : bestOf(now.read, now.awake, by)[0];
        }

        int noonFor(int worth) {
            if (worth < 0) {
                return -3;
            }
            if (bestBy(999) < worth) {
                return -1;
            }
            int least = 999;
            for (int step = 512; step > 0; step /= 2) {
                if (least - step >= 0 && bestBy(least - step) >= worth) {
                    least -= step;
                }
            }
            return least;
        }

        int without(int h) {
            return !isHand(h) ? -2 : bestOf(now.read, now.awake, noon)[0] - bestOf(now.read, now.awake & ~(1 << h), noon)[0];
        }

        int hindrance() {
            int first = -1;
            int most = -1;
            for (int k = 0; k < letters.size(); k++) {
                if ((now.read >> k & 1) == 0 && bestOf(now.read | 1 << k, now.awake, noon)[0] > most) {
                    most = bestOf(now.read | 1 << k, now.awake, noon)[0];
                    first = k;
                }
            }
            return first;
        }

        int hopeless() {
            int set = 0;
            for (int k = 0; k < letters.size(); k++) {
                boolean hope = (now.read >> k & 1) != 0;
                for (int h = 0; h < hands.size(); h++) {
                    hope |= (now.awake >> h & 1) != 0 && reads(h, k) && end(List.of(10 * h + k)) <= noon;
                }
                set |= hope ? 0 : 1 << k;
            }
            return set;
        }

        // ---- by rule

        int rule(int what) {
            List<Integer> row = ruleRow(now.read, now.awake);
            return what < 0 || what > 2 ? -2 : what == 0 ? setOf(row) : what == 1 ? worthOf(setOf(row)) : end(row);
        }

        int ruleBy(int k) {
            for (int code : ruleRow(now.read, now.awake)) {
                if (code % 10 == k) {
                    return code / 10;
                }
            }
            return isLetter(k) ? -1 : -2;
        }

        int ruleOfAll(int asleep) {
            return setOf(ruleRow(0, (1 << hands.size()) - 1 & ~asleep));
        }

        boolean isSet(int set) {
            return set >= 0 && set < 1 << letters.size();
        }

        int slept(int set) {
            int sum = 0;
            for (int asleep = 0; asleep < 1 << hands.size(); asleep++) {
                sum += ruleOfAll(asleep) == set ? 1 : 0;
            }
            return isSet(set) ? sum : -3;
        }

        int sleeper(int set) {
            int all = -1;
            for (int asleep = 0; asleep < 1 << hands.size(); asleep++) {
                all &= ruleOfAll(asleep) == set ? asleep : -1;
            }
            return !isSet(set) ? -3 : all == -1 ? 0 : all;
        }

        // ---- found out, believed

        int quiet(int set) {
            if (!isSet(set)) {
                return -3;
            }
            int q = 10000;
            for (int k = 0; k < letters.size(); k++) {
                q = (set >> k & 1) != 0 ? q * (100 - shows(k)) / 100 : q;
            }
            return q;
        }

        int safest(int n) {
            int least = -1;
            for (int set = 0; set < 1 << letters.size(); set++) {
                if ((set & now.read) == 0 && Integer.bitCount(set) == n && (least < 0 || quiet(set) > quiet(least))) {
                    least = set;
                }
            }
            return n < 0 || n > 6 ? -3 : least;
        }

        int bold(int q) {
            int least = 0;
            for (int set = 1; set < 1 << letters.size(); set++) {
                if ((set & now.read) == 0 && quiet(set) >= q && worthOf(set) > worthOf(least)) {
                    least = set;
                }
            }
            return q < 0 || q > 10000 ? -3 : least;
        }

        java.math.BigInteger[] fraction(int set) {
            java.math.BigInteger war = java.math.BigInteger.valueOf(prior);
            java.math.BigInteger peace = java.math.BigInteger.valueOf(100 - prior);
            for (int k = 0; k < letters.size(); k++) {
                int says = letters.get(k).get("says");
                if ((set >> k & 1) != 0 && says != 0) {
                    int truth = courts.get(letters.get(k).get("court"));
                    war = war.multiply(java.math.BigInteger.valueOf(says == 1 ? truth : 100 - truth));
                    peace = peace.multiply(java.math.BigInteger.valueOf(says == 1 ? 100 - truth : truth));
                }
            }
            java.math.BigInteger all = war.add(peace);
            if (all.signum() == 0) {
                return new java.math.BigInteger[] {all, all};
            }
            java.math.BigInteger g = war.gcd(all);
            return new java.math.BigInteger[] {war.divide(g), all.divide(g)};
        }

        long belief(int set, int what) {
            return what < 0 || what > 1 ? -2 : !isSet(set) ? -3 : fraction(set)[what].longValueExact();
        }

        int inTenThousand(int set) {
            java.math.BigInteger[] f = fraction(set);
            return f[1].signum() == 0 ? -1 : f[0].multiply(java.math.BigInteger.valueOf(10000)).divide(f[1]).intValueExact();
        }

        int now() {
            return inTenThousand(now.read);
        }

        int tellsMost() {
            int first = -1;
            int most = 0;
            for (int k = 0; k < letters.size() && now() >= 0; k++) {
                int then = inTenThousand(now.read | 1 << k);
                if ((now.read >> k & 1) == 0 && then >= 0 && Math.abs(then - now()) > most) {
                    most = Math.abs(then - now());
                    first = k;
                }
            }
            return first;
        }

        // ---- ciphers

        int cipherCode(int tray) {
            if (trayCode(tray) != 0) {
                return trayCode(tray);
            }
            if (trays[tray].length == 0) {
                return -4;
            }
            for (long v : trays[tray]) {
                if (v < 0 || v > 25) {
                    return -3;
                }
            }
            return 0;
        }

        static int[] shifts(int key) {
            if (key >= 0 && key < 26) {
                return new int[] {key};
            }
            int n = key - 100;
            if (n >= 0 && n < 676) {
                return new int[] {n / 26, n % 26};
            }
            n = key - 1000;
            return n >= 0 && n < 17576 ? new int[] {n / 676, n / 26 % 26, n % 26} : null;
        }

        String plainBy(int tray, int[] shifts) {
            char[] s = new char[trays[tray].length];
            for (int i = 0; i < s.length; i++) {
                s[i] = (char) ('a' + (trays[tray][i] - shifts[i % shifts.length] + 26) % 26);
            }
            return new String(s);
        }

        long[] fitFor = null;
        String fitName = null;
        List<Integer> fitKept = null;

        List<Integer> fitting(int tray) {
            if (fitKept != null && name.equals(fitName) && Arrays.equals(fitFor, trays[tray])) {
                return fitKept;
            }
            List<Integer> fit = new ArrayList<>();
            for (int key = 0; key < 18576 && !name.isEmpty(); key++) {
                int[] shifts = shifts(key);
                if (shifts != null && plainBy(tray, shifts).contains(name)) {
                    fit.add(key);
                }
            }
            fitFor = trays[tray].clone();
            fitName = name;
            fitKept = fit;
            return fit;
        }

        int keys(int tray) {
            return cipherCode(tray) != 0 ? cipherCode(tray) : fitting(tray).size();
        }

        int keyAt(int tray, int i) {
            if (cipherCode(tray) != 0) {
                return cipherCode(tray);
            }
            return i < 0 ? -3 : i < fitting(tray).size() ? fitting(tray).get(i) : -1;
        }

        int place(int tray, int key) {
            if (cipherCode(tray) != 0) {
                return cipherCode(tray);
            }
            return shifts(key) == null ? -3 : name.isEmpty() ? -1 : plainBy(tray, shifts(key)).indexOf(name);
        }

        int plain(int tray, int key, int to) {
            if (trayCode(tray) == -2 || trayCode(to) == -2 || tray == to) {
                return -2;
            }
            if (trays[tray] == null || trays[to] == null) {
                return -6;
            }
            if (cipherCode(tray) != 0) {
                return cipherCode(tray);
            }
            if (shifts(key) == null) {
                return -3;
            }
            String s = plainBy(tray, shifts(key));
            for (int i = 0; i < s.length() && i < trays[to].length; i++) {
                write(to, i, s.charAt(i) - 'a');
            }
            return Math.min(s.length(), trays[to].length);
        }

        int look(int tray) {
            if (cipherCode(tray) != 0) {
                return cipherCode(tray);
            }
            List<Integer> fit = fitting(tray);
            List<String> texts = new ArrayList<>();
            for (int key : fit) {
                texts.add(plainBy(tray, shifts(key)));
            }
            int first = -1;
            long most = 0;
            for (int i = 0; i < trays[tray].length; i++) {
                int at = i;
                long unlike = texts.stream().map(s -> s.charAt(at)).distinct().count();
                if (unlike > most) {
                    most = unlike;
                    first = i;
                }
            }
            return first;
        }

        // ---- trays, images

        int numbers(int tray, int sort, int n) {
            if (trayCode(tray) == -2 || sort < 0 || sort > 3) {
                return -2;
            }
            if (n < 0 || n > 40) {
                return -3;
            }
            trays[tray] = new long[n];
            sorts[tray] = sort;
            return 0;
        }

        long write(int tray, int i, long v) {
            if (trayCode(tray) != 0) {
                return trayCode(tray);
            }
            if (i < 0 || i >= trays[tray].length) {
                return -7;
            }
            int away = 64 - (8 << sorts[tray]);
            trays[tray][i] = v << away >> away;
            return trays[tray][i];
        }

        int lists(int tray) {
            if (trayCode(tray) != 0) {
                return trayCode(tray);
            }
            int[] b = bestOf(now.read, now.awake, noon);
            int n = Math.min(trays[tray].length, b.length - 2);
            for (int i = 0; i < n; i++) {
                write(tray, i, b[i + 2]);
            }
            return n;
        }

        int image(int i) {
            if (i < 0 || i > 1) {
                return -2;
            }
            imageTexts[i] = text;
            imageStates[i] = now;
            return 0;
        }

        int restore(int i) {
            if (i < 0 || i > 1) {
                return -2;
            }
            if (imageTexts[i] == null) {
                return -5;
            }
            Model fresh = new Model();
            if (!imageTexts[i].isEmpty()) {
                fresh.parse(imageTexts[i]);
            }
            take(fresh);
            text = imageTexts[i];
            now = imageStates[i];
            past.clear();
            return 0;
        }

        int count(int what) {
            int[] all = {noon, hands.size(), courts.size(), letters.size(), now.read, now.found, now.days, now.awake, prior,
                past.size(), tape.length(), lines, name.length()};
            return what >= 0 && what < all.length ? all[what] : -1;
        }
    }
}
