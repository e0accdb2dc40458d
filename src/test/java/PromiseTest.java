/** Each promise of the document by hand: ordinary inputs, the edges that it names, and wrong inputs. */
public final class PromiseTest {
    private static final String FIRST = "noon 30;hand 0 1;hand 1 2 skill 4;court 80;court 30;"
        + "letter 0 tongue 1 pages 2 worth 5 seal 1 says yes;letter 1 tongue 2 pages 1 worth 3 says no;"
        + "letter 0 tongue 0 pages 4 worth 9 seal 2;prior 50;name rex;";
    /** Three letters that a hand copies in 1 minute and that show always, never, always. */
    private static final String SHOWN = "noon 50;hand 0;hand 0;court 50;letter 0 tongue 0 sign 5;letter 0 tongue 0;"
        + "letter 0 tongue 0 sign 5;copies : 1;shows : sign * 20;";

    private static int wrong = 0;
    private static int asked = 0;

    public static void main(String[] args) {
        theRoom();
        theText();
        theFaults();
        theLaws();
        theDeeds();
        theTraysOfDeeds();
        theRows();
        theBest();
        theRule();
        theFoundOut();
        theBelief();
        theCiphers();
        theTrays();
        theImages();
        System.out.println(wrong == 0 ? asked + " answers are as due" : wrong + " of " + asked + " answers are not as due");
        if (wrong != 0) {
            System.exit(1);
        }
    }

    private static void due(String what, long got, long want) {
        asked++;
        if (got != want) {
            wrong++;
            System.out.println(what + " answered " + got + ", due is " + want);
        }
    }

    private static void feed(BlackCabinet x, String text) {
        StringBuilder whole = new StringBuilder(text);
        while (whole.length() % 20 != 0) {
            whole.append(' ');
        }
        for (int i = 0; i < whole.length(); i += 20) {
            int[] w = new int[5];
            for (int j = 0; j < 20; j++) {
                w[j / 4] = w[j / 4] << 8 | whole.charAt(i + j);
            }
            x.feed(w[0], w[1], w[2], w[3], w[4]);
        }
    }

    private static int load(BlackCabinet x, String text) {
        feed(x, text);
        return x.room(text.length());
    }

    private static BlackCabinet in(String text) {
        BlackCabinet x = new BlackCabinet();
        due("room of '" + text + "' is read", load(x, text) > 0 ? 1 : 0, 1);
        return x;
    }

    /** What x is; the call that tells it is undone, as it changes x and can be undone itself. */
    private static int drawn(BlackCabinet x) {
        int was = x.seed(0);
        x.undo(1);
        return was;
    }

    private static void fill(BlackCabinet x, int tray, long... numbers) {
        x.numbers(tray, 2, numbers.length);
        for (int i = 0; i < numbers.length; i++) {
            x.write(tray, i, numbers[i]);
        }
    }

    private static void fillText(BlackCabinet x, int tray, String text) {
        x.numbers(tray, 0, text.length());
        for (int i = 0; i < text.length(); i++) {
            x.write(tray, i, text.charAt(i) - 'a');
        }
    }

    // ---- promises 1 to 10

    private static void theRoom() {
        BlackCabinet x = new BlackCabinet();
        int[] fresh = {0, 0, 0, 0, 0, 0, 0, 0, 50, 0, 0, 0, 0};
        for (int what = 0; what < fresh.length; what++) {
            due("1, 48: new count(" + what + ")", x.count(what), fresh[what]);
        }
        due("48: count(-1)", x.count(-1), -1);
        due("48: count(13)", x.count(13), -1);
        due("4: new fault(0)", x.fault(0), 0);
        due("4: new fault(1)", x.fault(1), -1);
        due("5: letter of none", x.letter(0, 0), -2);
        due("7: court of none", x.court(0), -2);
        due("10: name of none", x.name(0), -1);

        for (int i = 1; i <= 45; i++) {
            due("2: feed " + i, x.feed(0x20202020, 0x20202020, 0x20202020, 0x20202020, 0x20202020), 20L * i);
        }
        due("2: feed over 900", x.feed(0, 0, 0, 0, 0), -5);
        due("2: the tape stays at 900", x.count(10), 900);
        due("3: room(901)", x.room(901), -3);
        due("3: room(-1)", x.room(-1), -3);
        due("3: the tape stays then", x.count(10), 900);
        due("4: no room was read yet", x.fault(0), 0);
        due("3: 900 blanks", x.room(900), -32);
        due("4: their end", x.fault(1), 900);
        due("3: the tape is empty then", x.count(10), 0);
        due("3: room(0)", x.room(0), -32);
        due("4: at 0", x.fault(1), 0);
        due("4: fault(2)", x.fault(2), -1);
        due("4: fault(-1)", x.fault(-1), -1);

        due("3: first room", load(x, FIRST), 10);
        due("4: fault(0) of a right one", x.fault(0), 0);
        due("4: fault(1) of a right one", x.fault(1), -1);
        int[] counts = {30, 2, 2, 3, 0, 0, 0, 3, 50, 0, 0, 10, 3};
        for (int what = 0; what < counts.length; what++) {
            due("48: count(" + what + ")", x.count(what), counts[what]);
        }
        int[][] letters = {{0, 1, 2, 5, 1, 0, 1, 0, 0}, {1, 2, 1, 3, 0, 0, 2, 0, 0}, {0, 0, 4, 9, 2, 0, 0, 0, 0}};
        for (int k = 0; k < 3; k++) {
            for (int what = 0; what < 9; what++) {
                due("5: letter(" + k + ", " + what + ")", x.letter(k, what), letters[k][what]);
            }
        }
        due("5: letter(3, 0)", x.letter(3, 0), -2);
        due("5: letter(-1, 0)", x.letter(-1, 0), -2);
        due("5: letter(0, 9)", x.letter(0, 9), -2);
        due("5: letter(0, -1)", x.letter(0, -1), -2);
        int[][] hands = {{3, 0, 1, 5}, {6, 4, 1, 3}};
        for (int h = 0; h < 2; h++) {
            for (int what = 0; what < 4; what++) {
                due("6: hand(" + h + ", " + what + ")", x.hand(h, what), hands[h][what]);
            }
        }
        due("6: hand(2, 0)", x.hand(2, 0), -2);
        due("6: hand(-1, 0)", x.hand(-1, 0), -2);
        due("6: hand(0, 4)", x.hand(0, 4), -2);
        due("6: hand(0, -1)", x.hand(0, -1), -2);
        due("7: court(0)", x.court(0), 80);
        due("7: court(1)", x.court(1), 30);
        due("7: court(2)", x.court(2), -2);
        due("7: court(-1)", x.court(-1), -2);
        due("10: name(0)", x.name(0), 17);
        due("10: name(1)", x.name(1), 4);
        due("10: name(2)", x.name(2), 23);
        due("10: name(3)", x.name(3), -1);
        due("10: name(-1)", x.name(-1), -3);

        x.byRule();
        x.seed(9);
        x.sleeps(1);
        due("3: a fault", load(x, "noon 9;spy;"), -32);
        due("3: all stays with a fault: lines", x.count(11), 10);
        due("3: READ stays", x.count(4), 3);
        due("3: what can be undone stays", x.count(9), 3);
        due("3: x stays", x.seed(9), 9);
        due("3: but not the tape", x.count(10), 0);
        due("3: again", load(x, FIRST), 10);
        due("3: nothing is READ", x.count(4), 0);
        due("3: nobody sleeps", x.count(7), 3);
        due("3: nothing can be undone", x.count(9), 0);
        due("3: x is 0", x.seed(0), 0);
        feed(x, "noon 77;court 1;");
        due("3: the first n bytes alone", x.room(8), 1);
        due("3: its noon", x.count(0), 77);
        due("3: the rest is gone", x.count(10), 0);
        due("2: bytes highest first", x.feed(0x6e6f6f6e, 0x20353b20, 0, 0, 0), 20);
        due("2: read so", x.room(8), 1);
        due("2: noon 5", x.count(0), 5);
    }

    private static void theText() {
        BlackCabinet x = new BlackCabinet();
        due("tokens need no blanks", load(x, "noon9;hand0 1 1skill2;court007;letter0tongue3says no;\n opens:1;"), 5);
        due("noon9", x.count(0), 9);
        due("twice the same tongue", x.hand(0, 0), 3);
        due("skill2", x.hand(0, 1), 2);
        due("court007", x.court(0), 7);
        due("says no", x.letter(0, 6), 2);
        due("pages without", x.letter(0, 2), 1);
        due("worth without", x.letter(0, 3), 1);
        due("later flags strike", load(x, "noon 1;court 1;letter 0 tongue 0 pages 9 says yes pages 99 says no worth 0 seal 9 sign 9;"), 3);
        due("pages 99", x.letter(0, 2), 99);
        due("says no", x.letter(0, 6), 2);
        due("worth 0", x.letter(0, 3), 0);
        due("later priors, names, laws strike", load(x, "noon 300;prior 1;prior 100;name abc;name noon;court 0;"
            + "letter 0 tongue 0;opens:1;opens:pages+6;"), 9);
        due("prior", x.count(8), 100);
        due("a name may be any word", x.name(0), 13);
        due("of four letters", x.count(12), 4);
        due("opens", x.takes(0, 0), 7);
        due("a name of eight", load(x, "noon 1;name abcdefgh;"), 2);
        due("name(7)", x.name(7), 7);
        due("courts may come behind letters of others", load(x, "noon 1;court 1;letter 0 tongue 0;court 2;letter 1 tongue 0;"), 5);
        due("court of the second", x.letter(1, 0), 1);
        due("six ( are not too many", load(x, "noon 1;mends:((((((1))))))+(1);"), 2);
        due("six hands' worth of tongues", load(x, "noon 1;hand 0 1 2 3 3 2 1 0;"), 2);
        due("all tongues", x.hand(0, 0), 15);
    }

    private static void fault(String text, int kind, int place) {
        BlackCabinet x = new BlackCabinet();
        due("3: '" + text + "'", load(x, text), -30 - kind);
        due("4: kind in '" + text + "'", x.fault(0), kind);
        due("4: place in '" + text + "'", x.fault(1), place);
    }

    private static void theFaults() {
        fault("Noon 9;", 1, 0);
        fault("noon 9;\tcourt 1;", 1, 7);
        fault("noon 9,", 1, 6);
        fault("noon 9;name \u00e9;", 1, 12);
        fault("noon 1000;", 1, 5);
        fault("noon 0009;", 1, 5);
        fault("1000;", 1, 0);
        fault("noon 9;hand 0 12345 ;", 1, 14);
        fault("noon", 2, 4);
        fault("noon  ", 2, 6);
        fault("noon 9", 2, 6);
        fault("noon 9;;", 2, 7);
        fault("noon 9;noon 8;", 2, 7);
        fault("court 9;", 2, 0);
        fault("noon 9;hand skill 2;", 2, 12);
        fault("noon 9;hand 0 skill;", 2, 19);
        fault("noon 9;hand 0 skill 1 2;", 2, 22);
        fault("noon 9;hand 0 skill 1 skill 2;", 2, 22);
        fault("noon 9;hand 0 pages 1;", 2, 14);
        fault("noon 9;court;", 2, 12);
        fault("noon 9;court 1 2;", 2, 15);
        fault("noon 9;court 1;letter 0 pages 1;", 2, 24);
        fault("noon 9;court 1;letter 0 tongue 0 5;", 2, 33);
        fault("noon 9;court 1;letter 0 tongue 0 says;", 2, 37);
        fault("noon 9;court 1;letter 0 tongue 0 tongue 1;", 2, 33);
        fault("noon 9;prior;", 2, 12);
        fault("noon 9;name;", 2, 11);
        fault("noon 9;name abc def;", 2, 16);
        fault("noon 9;name abcdefghi;", 2, 12);
        fault("noon 9;opens;", 2, 12);
        fault("noon 9;opens:;", 2, 13);
        fault("noon 9;opens:1+;", 2, 15);
        fault("noon 9;opens:-1;", 2, 13);
        fault("noon 9;opens:1*;", 2, 15);
        fault("noon 9;opens:1 1;", 2, 15);
        fault("noon 9;opens:1);", 2, 14);
        fault("noon 9;opens:();", 2, 14);
        fault("noon 9;opens:(1", 2, 15);
        fault("noon 9;opens:worth;", 2, 13);
        fault("noon 9;opens:skill;", 2, 13);
        fault("noon 9;mends:skill;", 2, 13);
        fault("noon 9;shows:skill;", 2, 13);
        fault("noon 9;opens:1(((((((;", 2, 14);
        fault("noon 000;", 3, 5);
        fault("noon 301;", 3, 5);
        fault("noon 9;hand 4;", 3, 12);
        fault("noon 9;hand 0 4;", 3, 14);
        fault("noon 9;hand 0 skill 10;", 3, 20);
        fault("noon 9;court 101;", 3, 13);
        fault("noon 9;letter 0 tongue 0;", 3, 14);
        fault("noon 9;court 1;letter 1 tongue 0;court 1;", 3, 22);
        fault("noon 9;court 1;letter 0 tongue 4;", 3, 31);
        fault("noon 9;court 1;letter 0 tongue 0 pages 0;", 3, 39);
        fault("noon 9;court 1;letter 0 tongue 0 pages 100;", 3, 39);
        fault("noon 9;court 1;letter 0 tongue 0 worth 100;", 3, 39);
        fault("noon 9;court 1;letter 0 tongue 0 seal 10;", 3, 38);
        fault("noon 9;court 1;letter 0 tongue 0 sign 10;", 3, 38);
        fault("noon 9;prior 101;", 3, 13);
        fault("noon 9;hand 0;hand 0;hand 0;hand", 4, 28);
        fault("noon 9;court 1;court 1;court 1;court 1;court 1;", 4, 39);
        fault("noon 9;court 1;letter 0 tongue 0;letter 0 tongue 0;letter 0 tongue 0;letter 0 tongue 0;"
            + "letter 0 tongue 0;letter 0 tongue 0;letter 9;", 4, 123);
        fault("noon 9;opens:(((((((1)))))));", 4, 19);
        fault("noon 9;opens:((1)*(((((((1)))))));", 4, 23);
        fault("noon 9;spy;Noon", 2, 7);
        fault(";".repeat(900), 2, 0);
        fault("noon 9;opens:" + "1+".repeat(443) + ";", 2, 899);
        BlackCabinet x = new BlackCabinet();
        feed(x, "noon 1000;");
        due("3: the text ends within a number", x.room(8), -32);
        due("4: at its end", x.fault(1), 8);
        feed(x, "noon 9;courts 1;");
        due("3: the text ends within a word", x.room(12), -32);
        due("4: at its end", x.fault(1), 12);
    }

    private static void theLaws() {
        BlackCabinet x = in(FIRST);
        due("8: opens without a law", x.takes(0, 0), 2);
        due("8: mends without a law", x.takes(0, 1), 4);
        due("8: shows without a law", x.takes(0, 2), 10);
        due("8: takes(0, 3)", x.takes(0, 3), -2);
        due("8: takes(0, -1)", x.takes(0, -1), -2);
        due("8: takes(3, 0)", x.takes(3, 0), -2);
        due("8: takes(-1, 0)", x.takes(-1, 0), -2);
        due("9: copies(2, 1), which it doesn't read", x.copies(2, 1), 16);
        due("9: copies(3, 0)", x.copies(3, 0), -2);
        due("9: copies(0, 2)", x.copies(0, 2), -2);
        due("9: copies(-1, 0)", x.copies(-1, 0), -2);
        due("9: copies(0, -1)", x.copies(0, -1), -2);
        due("9: 1 at least", in("noon 9;hand 0 skill 9;court 1;letter 0 tongue 0;").copies(0, 0), 1);

        String room = "noon 9;hand 0 skill 7;court 1;letter 0 tongue 3 pages 4 seal 5 sign 6;";
        x = in(room + "opens:pages*10+seal-sign*tongue;copies:(pages+skill)*2;mends:0-1;shows:999;");
        due("8: times ahead of + and -", x.takes(0, 0), 27);
        due("9: skill", x.copies(0, 0), 22);
        due("8: 0 at least", x.takes(0, 1), 0);
        due("8: 100 at most", x.takes(0, 2), 100);
        x = in(room + "opens:1000-1;".replace("1000", "999+1") + "copies:999+1;mends:10-3-2;shows:5-9;");
        due("8: 999 is not cut", x.takes(0, 0), 999);
        due("9: 999 at most", x.copies(0, 0), 999);
        due("8: from left to right", x.takes(0, 1), 5);
        due("8: shows 0 at least", x.takes(0, 2), 0);
        x = in(room + "opens:999*999*999-999*999-999-999;mends:(0-999*999-999*999)+999*999+999+999+5;shows:2-3*0*(0-1);");
        due("8: kept to 1,000,000", x.takes(0, 0), 1);
        due("8: kept to -1,000,000", x.takes(0, 1), 4);
        due("8: by ( )", x.takes(0, 2), 2);
    }

    // ---- promises 11 to 15

    private static void theDeeds() {
        BlackCabinet x = in(SHOWN);
        due("11: seed", x.seed(-5), 0);
        due("11: what it was", x.seed(0), -5);
        due("15: each can be undone", x.count(9), 2);
        due("15: the latest seed", x.undo(1), 1);
        due("15: x is as told ahead of it", drawn(x), -5);
        due("15: the other seed too", x.undo(1), 0);
        due("15: x is as at first", drawn(x), 0);
        due("11: what it is already", x.seed(0), 0);
        due("15: can be undone too", x.undo(1), 0);
        due("12: no such tray", x.morning(4), -2);
        due("12: no such tray", x.morning(-1), -2);
        due("12: missing", x.morning(0), -6);
        fill(x, 0, 0, 11);
        due("12: one is found out", x.morning(0), 1);
        due("48: READ", x.count(4), 3);
        due("48: FOUND OUT", x.count(5), 1);
        due("48: DAYS", x.count(6), 1);
        due("5: READ", x.letter(1, 7), 1);
        due("5: not FOUND OUT", x.letter(1, 8), 0);
        due("5: FOUND OUT", x.letter(0, 8), 1);
        due("12: x drew twice", drawn(x), 1103515245 * 12345 + 12345);
        due("12: it was read", x.morning(0), -12);
        fill(x, 0, 2, 3);
        due("12: no such letter, nothing is done", x.morning(0), -11);
        due("12: nothing was", x.count(4), 3);
        fill(x, 0, 22);
        due("12: no such hand", x.morning(0), -11);
        fill(x, 0, -1);
        due("12: no such number", x.morning(0), -11);
        fill(x, 0, 100);
        due("12: a deed is no letter", x.morning(0), -11);
        fill(x, 0, 2, 12);
        due("12: is in the row", x.morning(0), -12);
        fill(x, 0);
        due("12: an empty row", x.morning(0), 0);
        due("12: makes a day", x.count(6), 2);
        due("15: both can be undone", x.undo(2), 0);
        due("15: READ", x.count(4), 0);
        due("15: DAYS", x.count(6), 0);
        due("15: x too", drawn(x), 0);
        x.seed(6);
        fill(x, 0, 0, 11);
        x.morning(0);
        due("15: the morning alone", x.undo(1), 1);
        due("15: x as the seed told it", drawn(x), 6);
        due("15: READ", x.count(4), 0);
        due("15: then the seed", x.undo(1), 0);
        due("15: x ahead of it", drawn(x), 0);
        for (int i = 1; i <= 12; i++) {
            x.seed(i);
        }
        due("15: ten seeds at most", x.count(9), 10);
        due("15: a seed and those ahead", x.undo(10), 0);
        due("15: two of twelve seeds stay", drawn(x), 2);

        x = in("noon 20;hand 0;court 1;letter 0 tongue 0 pages 3;letter 0 tongue 0 pages 3;letter 0 tongue 1;");
        fill(x, 0, 0);
        due("20: in time", x.when(0, 0, 2), 20);
        fill(x, 0, 0, 1);
        due("12: it wouldn't be in time", x.morning(0), -13);
        fill(x, 0, 2);
        due("12: not read by the hand", x.morning(0), -12);
        due("14: sleeps", x.sleeps(0), 0);
        due("6: asleep", x.hand(0, 2), 0);
        fill(x, 0, 0);
        due("12: the hand sleeps", x.morning(0), -12);
        due("13: nobody is awake", x.byRule(), 0);
        due("14: wakes", x.sleeps(0), 1);
        due("14: no such hand", x.sleeps(1), -2);
        due("14: no such hand", x.sleeps(-1), -2);
        due("13: by rule", x.byRule(), 1);
        due("13: the second one then", x.byRule(), 2);
        due("13: none is left", x.byRule(), 0);
        due("48: days", x.count(6), 4);
        due("48: can be undone", x.count(9), 6);
        due("15: undo(0)", x.undo(0), -3);
        due("15: undo(-1)", x.undo(-1), -3);
        due("15: undo(7)", x.undo(7), -3);
        due("15: undo(11)", x.undo(11), -3);
        due("15: undo(2)", x.undo(2), 4);
        due("15: READ", x.count(4), 1);
        for (int i = 0; i < 12; i++) {
            x.sleeps(0);
        }
        due("15: 10 at most", x.count(9), 10);
        due("15: all ten", x.undo(10), 0);
        due("15: two of twelve stay", x.count(7), 1);
        due("15: none is left", x.undo(1), -3);
        due("15: undoing can't be undone", x.count(9), 0);
    }

    // ---- promises 16 to 18

    private static void theTraysOfDeeds() {
        BlackCabinet x = in(SHOWN);
        due("16: missing", x.judge(0, 0), -6);
        due("16: no such tray", x.judge(4, 0), -2);
        due("16: what, ahead of missing", x.judge(0, 4), -2);
        due("16: what", x.judge(0, -1), -2);
        due("17: missing", x.perform(0), -6);
        due("17: no such tray", x.perform(-1), -2);
        fill(x, 0, 0, 100, 300, 11, 2);
        due("16: the first that can't be", x.judge(0, 0), 4);
        due("16: why", x.judge(0, 1), 2);
        due("16: READ then", x.judge(0, 2), 1);
        due("16: DAYS then", x.judge(0, 3), 1);
        due("16: nothing is done", x.count(4), 0);
        due("16: nor drawn", drawn(x), 0);
        due("17: how many", x.perform(0), 4);
        due("17: what is in the row is left", x.count(4), 1);
        due("17: it showed", x.count(5), 1);
        due("17: hand 0 sleeps", x.count(7), 2);
        due("17: one call", x.undo(1), 0);
        due("17: as it was", x.count(7), 3);
        due("17: nothing read", x.count(4), 0);
        fill(x, 0, 0, 11, 200, 11);
        due("16: by rule the row so far stays away", x.judge(0, 2), 7);
        due("16: the row is none then, but they are read", x.judge(0, 1), 2);
        fill(x, 0, 0, 300, 100);
        due("16: a hand may sleep behind", x.judge(0, 0), -1);
        due("16: its letter is read", x.judge(0, 2), 1);
        fill(x, 0, 0, 300, 200, 300);
        due("16: by rule without a sleeper", x.judge(0, 2), 7);
        due("16: nothing can't be", x.judge(0, 1), 0);
        fill(x, 0, 302);
        due("16: no such hand", x.judge(0, 1), 1);
        due("17: none is done", x.perform(0), 0);
        due("17: then nothing can be undone", x.count(9), 0);
        fill(x, 0, 30);
        due("16: no such number", x.judge(0, 1), 1);
        fill(x, 0, 100, 100, 100);
        due("16: mornings of no row", x.judge(0, 3), 3);
        fill(x, 0);
        due("17: an empty tray", x.perform(0), 0);
        due("16: an empty tray", x.judge(0, 0), -1);
        x.numbers(0, 3, 1);
        x.write(0, 0, 1L << 32);
        due("16: a number beyond an int", x.judge(0, 1), 1);
        fill(x, 0, 0);
        due("17: a letter in the row", x.perform(0), 1);
        due("17: isn't read", x.count(4), 0);
        due("17: but can be undone", x.count(9), 1);

        x = in(SHOWN);
        due("18: no times", x.mornings(1, 0), -3);
        due("18: too many times", x.mornings(1, 31), -3);
        due("18: without hands", in("noon 9;").mornings(1, 1), -5);
        due("18: times ahead of hands", in("noon 9;").mornings(1, 0), -3);
        due("18: by seed 0 the first draw is 0", x.mornings(0, 1), 7);
        due("18: DAYS", x.count(6), 1);
        due("18: found out", x.count(5) & 2, 0);
        due("18: one call", x.undo(1), 0);
        int draw = 1103515245 * 70000 + 12345;
        int second = 1103515245 * draw + 12345;
        due("18: another seed", (draw >>> 16) % 3 == 0 ? 1 : 0, 0);
        due("18: a hand sleeps", x.mornings(70000, 1), 0);
        due("18: that one", x.count(7), 3 & ~(1 << (second >>> 16) % 2));
        due("18: x stays where it is", x.seed(0), second);
    }

    // ---- promises 19 and 20

    private static void theRows() {
        BlackCabinet x = in(FIRST);
        due("19: missing", x.row(0, 0), -6);
        due("19: no such tray", x.row(4, 0), -2);
        due("19: what ahead of missing", x.row(0, 3), -2);
        due("20: missing", x.when(0, 0, 0), -6);
        due("20: what", x.when(0, 0, 3), -2);
        due("20: no such tray", x.when(-1, 0, 0), -2);
        fill(x, 0);
        due("19: empty", x.row(0, 0), -1);
        due("19: no minute", x.row(0, 2), 0);
        due("20: no first", x.when(0, 0, 0), -7);
        fill(x, 0, 2, 10, 11);
        due("19: all can be", x.row(0, 0), -1);
        due("19: why", x.row(0, 1), 0);
        due("19: minute", x.row(0, 2), 27);
        int[][] times = {{2, 22, 27}, {4, 10, 14}, {6, 11, 17}};
        for (int i = 0; i < 3; i++) {
            for (int what = 0; what < 3; what++) {
                due("20: when(0, " + i + ", " + what + ")", x.when(0, i, what), times[i][what]);
            }
        }
        due("20: no fourth", x.when(0, 3, 0), -7);
        due("20: -1", x.when(0, -1, 0), -7);
        fill(x, 0, 10, 99, 11);
        due("19: a place that can't be", x.row(0, 0), 1);
        due("19: why", x.row(0, 1), 1);
        due("19: minute ahead of it", x.row(0, 2), 12);
        due("20: reached", x.when(0, 0, 2), 12);
        due("20: not reached", x.when(0, 1, 2), -1);
        due("20: nor behind", x.when(0, 2, 2), -1);
        fill(x, 0, 10, 0);
        due("19: in the row", x.row(0, 1), 2);
        fill(x, 0, 10, 2);
        due("19: in time", x.row(0, 0), -1);
        fill(x, 0, 0, 2);
        due("19: not in time", x.row(0, 1), 3);

        x = in("noon 99;hand 0;hand 0;court 1;letter 0 tongue 0 pages 5;letter 0 tongue 0 pages 4 seal 9;"
            + "letter 0 tongue 0 pages 1 seal 1;opens:1;copies:pages;mends:seal;");
        fill(x, 0, 0, 11, 12);
        due("20: done at once, the first in the row is mended first", x.when(0, 1, 2), 15);
        due("20: and the other", x.when(0, 0, 2), 6);
        due("20: the hand is busy", x.when(0, 2, 1), 7);
        due("20: the table is busy", x.when(0, 2, 2), 16);
        fill(x, 0, 10, 1, 2);
        due("20: nothing behind is done", x.when(0, 0, 2), 6);
    }

    // ---- promises 21 to 27 and 45

    private static void theBest() {
        BlackCabinet x = in(FIRST);
        int[] best = {17, 3, 7, 27};
        for (int what = 0; what < 4; what++) {
            due("21: best(" + what + ")", x.best(what), best[what]);
        }
        due("21: best(4)", x.best(4), -2);
        due("21: best(-1)", x.best(-1), -2);
        int[] codes = {2, 10, 11, -1};
        for (int i = 0; i < 4; i++) {
            due("22: bestAt(" + i + ")", x.bestAt(i), codes[i]);
        }
        due("22: bestAt(-1)", x.bestAt(-1), -3);
        due("23: bestBy(26)", x.bestBy(26), 8);
        due("23: bestBy(27)", x.bestBy(27), 17);
        due("23: bestBy(0)", x.bestBy(0), 0);
        due("23: bestBy(999)", x.bestBy(999), 17);
        due("23: bestBy(1000)", x.bestBy(1000), -3);
        due("23: bestBy(-1)", x.bestBy(-1), -3);
        due("24: noonFor(0)", x.noonFor(0), 0);
        due("24: noonFor(9)", x.noonFor(9), 27);
        due("24: noonFor(18)", x.noonFor(18), -1);
        due("24: noonFor(-1)", x.noonFor(-1), -3);
        due("25: without(0)", x.without(0), 9);
        due("25: without(1)", x.without(1), 8);
        due("25: without(2)", x.without(2), -2);
        due("25: without(-1)", x.without(-1), -2);
        due("26: hindrance", x.hindrance(), 1);
        due("27: hopeless", x.hopeless(), 0);
        due("45: missing", x.lists(0), -6);
        due("45: no such tray", x.lists(4), -2);
        fill(x, 0, 77, 77);
        due("45: as far as it has places", x.lists(0), 2);
        due("45: the row is there", x.row(0, 2), 27);
        fill(x, 0, 5, 5, 5, 5);
        due("45: three of four", x.lists(0), 3);
        due("45: the fourth stays", x.row(0, 0), 3);
        x.sleeps(0);
        due("25: it sleeps", x.without(0), 0);
        due("27: no hand awake reads it", x.hopeless(), 4);
        due("21: with whom is awake", x.best(2), 3);
        x.sleeps(0);
        x.byRule();
        due("21: what is left", x.best(2), 4);
        due("26: the last", x.hindrance(), 2);
        due("23: of the others", x.bestBy(999), 9);
        due("24: of the others", x.noonFor(10), -1);
        x.byRule();
        due("26: all are read", x.hindrance(), -1);
        due("27: all are read", x.hopeless(), 0);
        due("21: all are read", x.best(1), 0);

        x = in("noon 20;hand 0;hand 0;court 1;letter 0 tongue 0 worth 2 pages 2;letter 0 tongue 0 worth 2 pages 2;"
            + "letter 0 tongue 0 worth 4 pages 2;letter 0 tongue 0 worth 0;letter 0 tongue 0 pages 40 worth 99;mends:8;");
        due("21: most worth", x.best(0), 4);
        due("21: fewest letters", x.best(1), 1);
        due("22: the first by numbers", x.bestAt(0), 2);
        due("27: alone not in time", x.hopeless(), 16);
        due("24: beyond the noon", x.noonFor(99), 210);
        x = in("noon 999;".replace("999", "300") + "hand 0;court 1;letter 0 tongue 0 pages 99 worth 7;copies:990;");
        due("23: by 999", x.bestBy(999), 7);
        due("24: 995", x.noonFor(7), 995);
        x = in("noon 300;hand 0;court 1;letter 0 tongue 0 worth 7;copies:994;");
        due("24: 999 is the last", x.noonFor(7), 999);
        x = in("noon 300;hand 0;court 1;letter 0 tongue 0 worth 7;copies:995;");
        due("24: 1000 is not", x.noonFor(7), -1);
        x = in("noon 300;hand 0;court 1;letter 0 tongue 0 worth 7;copies:999;");
        due("24: not by 999", x.noonFor(7), -1);
        x = in("noon 1;hand 0;court 1;letter 0 tongue 0 worth 7;copies:0;opens:0;mends:0;");
        due("23: by 0", x.bestBy(0), 7);
        due("24: by 0", x.noonFor(7), 0);
    }

    // ---- promises 28 to 31

    private static void theRule() {
        BlackCabinet x = in(FIRST);
        due("28: which", x.rule(0), 3);
        due("28: worth", x.rule(1), 8);
        due("28: minute", x.rule(2), 15);
        due("28: rule(3)", x.rule(3), -2);
        due("28: rule(-1)", x.rule(-1), -2);
        due("29: ruleBy(0)", x.ruleBy(0), 1);
        due("29: ruleBy(2)", x.ruleBy(2), -1);
        due("29: ruleBy(3)", x.ruleBy(3), -2);
        due("29: ruleBy(-1)", x.ruleBy(-1), -2);
        int[][] sets = {{3, 2, 0}, {1, 1, 2}, {0, 1, 3}, {7, 0, 0}, {8, -3, -3}, {-1, -3, -3}};
        for (int[] s : sets) {
            due("30: slept(" + s[0] + ")", x.slept(s[0]), s[1]);
            due("31: sleeper(" + s[0] + ")", x.sleeper(s[0]), s[2]);
        }
        x.byRule();
        due("28: what is left", x.rule(0), 4);
        due("30: READ or not", x.slept(3), 2);
        due("29: READ", x.ruleBy(0), -1);
        x = in("noon 9;hand 0;hand 0;court 1;letter 0 tongue 0;letter 0 tongue 0;copies:2;opens:1;mends:0;");
        due("29: of like ones the first hand", x.ruleBy(0), 0);
        due("29: the next is done sooner by the other", x.ruleBy(1), 1);
        x = in("noon 9;hand 0;hand 0 skill 1;court 1;letter 0 tongue 0;letter 0 tongue 0;copies:8-skill;opens:1;mends:0;");
        due("28: the second would be mended too late", x.rule(0), 1);
        due("29: by the skilled one", x.ruleBy(0), 1);
    }

    // ---- promises 32 to 37

    private static void theFoundOut() {
        BlackCabinet x = in("noon 90;hand 0;court 1;letter 0 tongue 0 sign 1 worth 5;letter 0 tongue 0 sign 3 worth 4;"
            + "letter 0 tongue 0 sign 1 worth 2;shows:sign*11;");
        due("32: none", x.quiet(0), 10000);
        due("32: one", x.quiet(2), 6700);
        due("32: cut each time", x.quiet(7), 5307);
        due("32: others", x.quiet(8), -3);
        due("32: others", x.quiet(-1), -3);
        due("33: one", x.safest(1), 1);
        due("33: two", x.safest(2), 5);
        due("33: three", x.safest(3), 7);
        due("33: none", x.safest(0), 0);
        due("33: not so many", x.safest(4), -1);
        due("33: safest(7)", x.safest(7), -3);
        due("33: safest(-1)", x.safest(-1), -3);
        due("34: bold(10000)", x.bold(10000), 0);
        due("34: bold(8900)", x.bold(8900), 1);
        due("34: bold(7921)", x.bold(7921), 5);
        due("34: bold(5963)", x.bold(5963), 3);
        due("34: bold(0)", x.bold(0), 7);
        due("34: bold(10001)", x.bold(10001), -3);
        due("34: bold(-1)", x.bold(-1), -3);
        fill(x, 0, 0);
        x.morning(0);
        due("33: not READ", x.safest(1), 4);
        due("33: not so many", x.safest(3), -1);
        due("34: not READ", x.bold(0), 6);
    }

    private static void theBelief() {
        BlackCabinet x = in(FIRST);
        long[][] beliefs = {{0, 1, 2}, {1, 4, 5}, {2, 7, 10}, {3, 28, 31}, {4, 1, 2}, {7, 28, 31}};
        for (long[] b : beliefs) {
            due("35: above " + b[0], x.belief((int) b[0], 0), b[1]);
            due("35: below " + b[0], x.belief((int) b[0], 1), b[2]);
        }
        due("35: the set", x.belief(8, 0), -3);
        due("35: the set", x.belief(-1, 0), -3);
        due("35: what", x.belief(0, 2), -2);
        due("35: what is told first", x.belief(8, -1), -2);
        due("36: now", x.now(), 5000);
        due("37: tells most", x.tellsMost(), 0);
        fill(x, 0, 10);
        x.morning(0);
        due("36: then", x.now(), 8000);
        due("37: then", x.tellsMost(), 1);
        fill(x, 0, 11);
        x.morning(0);
        due("36: cut", x.now(), 9032);
        due("37: by none", x.tellsMost(), -1);

        x = in("noon 9;hand 0;court 100;court 0;letter 0 tongue 0 says yes;letter 0 tongue 0 says no;"
            + "letter 1 tongue 0 says no;copies:0;");
        due("35: sure", x.belief(1, 0), 1);
        due("35: sure", x.belief(1, 1), 1);
        due("35: sure not", x.belief(2, 0), 0);
        due("35: sure not", x.belief(2, 1), 1);
        due("35: it can't be", x.belief(3, 0), 0);
        due("35: it can't be", x.belief(3, 1), 0);
        due("35: liars", x.belief(5, 0), 1);
        due("37: up and down alike, the first", x.tellsMost(), 0);
        fill(x, 0, 0);
        due("12: read it", x.morning(0), x.count(5) == 1 ? 1 : 0);
        due("36: sure", x.now(), 10000);
        due("37: one changes nothing, one can't be", x.tellsMost(), -1);
        x = in("noon 99;hand 0;court 99;letter 0 tongue 0 says yes;letter 0 tongue 0 says yes;letter 0 tongue 0 says yes;"
            + "letter 0 tongue 0 says yes;letter 0 tongue 0 says yes;letter 0 tongue 0 says yes;prior 99;");
        due("35: great numbers", x.belief(63, 0), 93206534790699L);
        due("35: great numbers", x.belief(63, 1), 93206534790700L);
    }

    // ---- promises 38 to 42

    private static void theCiphers() {
        BlackCabinet x = in("noon 9;name ab;");
        due("38: missing", x.keys(0), -6);
        due("38: no such tray", x.keys(4), -2);
        due("38: no such tray", x.keys(-1), -2);
        fill(x, 0);
        due("38: no numbers", x.keys(0), -4);
        due("39: no numbers", x.keyAt(0, 0), -4);
        due("40: no numbers", x.place(0, 0), -4);
        due("42: no numbers", x.look(0), -4);
        fill(x, 0, 1, 26);
        due("38: 26", x.keys(0), -3);
        fill(x, 0, 1, -1);
        due("38: -1", x.keys(0), -3);
        due("39: -1", x.keyAt(0, 0), -3);
        due("42: -1", x.look(0), -3);
        fillText(x, 0, "a");
        due("38: too short", x.keys(0), 0);
        due("39: too short", x.keyAt(0, 0), -1);
        due("42: too short", x.look(0), -1);
        fillText(x, 0, "cd");
        due("38: one of one, one of two, 26 of three", x.keys(0), 28);
        due("39: of one", x.keyAt(0, 0), 2);
        due("39: of two", x.keyAt(0, 1), 154);
        due("39: of three", x.keyAt(0, 2), 1000 + 2 * 676 + 2 * 26);
        due("39: the last", x.keyAt(0, 27), 1000 + 2 * 676 + 2 * 26 + 25);
        due("39: not so many", x.keyAt(0, 28), -1);
        due("39: below 0", x.keyAt(0, -1), -3);
        due("40: place", x.place(0, 2), 0);
        due("40: not there", x.place(0, 3), -1);
        int[] wrongKeys = {-1, 26, 99, 776, 999, 18576, Integer.MAX_VALUE, Integer.MIN_VALUE};
        for (int key : wrongKeys) {
            due("40: no key " + key, x.place(0, key), -3);
            x.numbers(1, 0, 2);
            due("41: no key " + key, x.plain(0, key, 1), -3);
        }
        due("40: the first of two", x.place(0, 100), -1);
        due("40: the first of three", x.place(0, 1000), -1);
        due("40: the last of two", x.place(0, 775), -1);
        due("40: the last of three", x.place(0, 18575), -1);
        fillText(x, 0, "zabcd");
        due("40: the first place", x.place(0, 0), 1);
        due("40: by another", x.place(0, 25), 0);

        x.numbers(1, 2, 4);
        x.write(1, 3, 500);
        due("41: as far as it has places", x.plain(0, 101, 1), 4);
        due("41: both one", x.plain(0, 0, 0), -2);
        due("41: no such tray", x.plain(0, 0, 4), -2);
        due("41: no such tray", x.plain(-1, 0, 1), -2);
        due("41: one is missing", x.plain(0, 0, 2), -6);
        due("41: one is missing", x.plain(2, 0, 1), -6);
        fill(x, 3);
        due("41: no numbers", x.plain(3, 0, 1), -4);
        due("41: into none", x.plain(0, 0, 3), 0);
        x = in("noon 9;name zz;");
        fillText(x, 0, "zabcd");
        x.numbers(1, 2, 6);
        x.write(1, 5, 3);
        due("41: all five", x.plain(0, 101, 1), 5);
        due("41: they are zzbbd and what was there", x.place(1, 0), 0);
        due("41: letters behind stay", x.keyAt(1, 0), 0);
        due("40: three shifts", x.place(0, 1000 + 676 * 0 + 26 * 1 + 2), 0);

        x = in("noon 9;name aa;");
        fillText(x, 0, "aaa");
        due("42: three shifts leave the third free", x.look(0), 0);
        fillText(x, 0, "aba");
        due("38: at both places", x.keys(0), 1 + 26 + 26 - 1);
        x = in("noon 9;name abc;");
        fillText(x, 0, "abcz");
        due("42: of the only ones", x.look(0), 0);
        x = in("noon 9;");
        fillText(x, 0, "abc");
        due("38: without a name", x.keys(0), 0);
        due("40: without a name", x.place(0, 0), -1);
        due("42: without a name", x.look(0), -1);
        x = in("noon 9;name abc;");
        fillText(x, 0, "abcabcabcabcabcabcabcabcabcabcabcabcabcd");
        due("38: forty numbers", x.keys(0) > 0 ? 1 : 0, 1);
        x = in("noon 9;name a;");
        fillText(x, 0, "ab");
        due("38: a name of one letter", x.keys(0), 2 + 51 + 676 * 2 - 26);
        due("42: all letters at both", x.look(0), 0);
        x = in("noon 9;name abc;");
        fillText(x, 0, "azzc");
        due("38: one at each place", x.keys(0), 2);
        due("42: both have the same first shift", x.look(0), 1);
    }

    // ---- promises 43 and 44

    private static void theTrays() {
        BlackCabinet x = new BlackCabinet();
        due("43: no such tray", x.numbers(4, 0, 1), -2);
        due("43: no such tray", x.numbers(-1, 0, 1), -2);
        due("43: no such sort", x.numbers(0, 4, 1), -2);
        due("43: no such sort, ahead of n", x.numbers(0, -1, 41), -2);
        due("43: too many", x.numbers(0, 0, 41), -3);
        due("43: below 0", x.numbers(0, 0, -1), -3);
        due("43: still missing", x.write(0, 0, 1), -6);
        due("44: no such tray", x.write(4, 0, 1), -2);
        due("43: forty", x.numbers(0, 0, 40), 0);
        due("44: the last", x.write(0, 39, 5), 5);
        due("44: no such number", x.write(0, 40, 5), -7);
        due("44: no such number", x.write(0, -1, 5), -7);
        due("44: 8 bits", x.write(0, 0, 200), -56);
        due("44: 8 bits", x.write(0, 0, 127), 127);
        due("43: stays", x.numbers(0, 1, 41), -3);
        due("44: still 8 bits", x.write(0, 0, 256), 0);
        due("43: 16 bits", x.numbers(0, 1, 2), 0);
        due("44: 16 bits", x.write(0, 0, 0x18000), -32768);
        due("43: 32 bits", x.numbers(0, 2, 2), 0);
        due("44: 32 bits", x.write(0, 0, 0x180000000L), Integer.MIN_VALUE);
        due("43: 64 bits", x.numbers(0, 3, 2), 0);
        due("44: 64 bits", x.write(0, 0, Long.MIN_VALUE), Long.MIN_VALUE);
        due("43: none", x.numbers(0, 3, 0), 0);
        due("44: no numbers", x.write(0, 0, 1), -7);
        x = in("noon 9;name a;");
        fillText(x, 0, "zz");
        x.numbers(0, 0, 1);
        due("43: all 0", x.place(0, 0), 0);
        load(x, FIRST);
        due("43: trays stay with a new room", x.write(0, 0, 1), 1);
    }

    // ---- promises 46 and 47

    private static void theImages() {
        BlackCabinet x = new BlackCabinet();
        due("46: no such image", x.image(2), -2);
        due("46: no such image", x.image(-1), -2);
        due("47: no such image", x.restore(2), -2);
        due("47: none was made", x.restore(0), -5);
        due("46: of no room", x.image(0), 0);
        load(x, FIRST);
        x.byRule();
        x.sleeps(1);
        x.seed(77);
        due("46: image(1)", x.image(1), 0);
        due("46: undoing goes on", x.count(9), 3);
        int found = x.count(5);
        load(x, "noon 9;hand 3;");
        due("47: restore(1)", x.restore(1), 0);
        int[] counts = {30, 2, 2, 3, 3, found, 1, 1, 50, 0, 0, 10, 3};
        for (int what = 0; what < counts.length; what++) {
            due("47: count(" + what + ")", x.count(what), counts[what]);
        }
        due("47: x", x.seed(0), 77);
        due("47: the name", x.name(2), 23);
        due("47: minutes", x.copies(0, 1), 6);
        due("47: best", x.best(2), 4);
        x.byRule();
        due("47: all read", x.best(2), 0);
        due("47: again", x.restore(1), 0);
        due("47: x again", x.seed(0), 77);
        due("47: best again", x.best(2), 4);
        due("47: of no room", x.restore(0), 0);
        due("47: no letters", x.count(3), 0);
        due("47: no best", x.best(0), 0);
        due("47: no lines", x.count(11), 0);
        load(x, FIRST);
        due("46: anew", x.image(0), 0);
        load(x, "noon 9;");
        x.restore(0);
        due("47: the newer", x.count(0), 30);
    }
}
